/-! so many minutes, on both sides -/
noncomputable def mnK (K : Sg → Option Sg) : Nat → Int → Sg → Option (Int × Sg)
  | 0, acc, τ => some (acc, τ)
  | n + 1, acc, τ => b1 (K τ) fun τ1 => b2 (Mo_aMinute τ1) fun r τ2 => mnK K n (acc + r) τ2
theorem mnK_s {K : Sg → Option Sg} {n : Nat} {acc : Int} {τ : Sg} : mnK K (n + 1) acc τ = b1 (K τ) fun τ1 => b2 (Mo_aMinute τ1) fun r τ2 => mnK K n (acc + r) τ2 := rfl
/-- what a course leaves alone, if the reference keeps its rows in between -/
def FX (t : Nat) (σ σ' τ τ' : Sg) : Prop :=
  (∀ c, (c < t ∨ t + 13 ≤ c ∨ c = t + 3) → c ≠ 15 → c ≠ 149 → c ≠ 150 → c ≠ 151 → σ' c = σ c) ∧ (t = 153 → σ' 15 = σ 15) ∧
  (∀ c, c ≠ 172 → c ≠ 173 → c ≠ 175 → c ≠ 181 → c ≠ 182 → τ' c = τ c) ∧ (∀ j, 548 ≤ j → (j < 733 ∨ 1333 ≤ j) → τ' 173 j = τ 173 j) ∧ τ 173 2 ≤ τ' 173 2 ∧ (t = 153 → ∀ j, 733 ≤ j → j < 1333 → τ' 173 j = τ 173 j) ∧ ∀ j, j ≠ 4 → j ≠ 26 → j ≠ 27 → τ' 172 j = τ 172 j
/-- what the reference does ahead of each minute -/
def okK (K : Sg → Option Sg) (Iv : Sg → Prop) : Prop := (∀ τ, Iv τ → ∃ τ', K τ = some τ' ∧ τ' 172 26 = τ 172 26 ∧ τ' 172 27 = τ 172 27 ∧ (∀ j, j ≠ 4 → j ≠ 26 → j ≠ 27 → τ' 172 j = τ 172 j) ∧ (∀ c, c ≠ 172 → c ≠ 175 → τ' c = τ c) ∧ Iv τ') ∧ ∀ τ τ', τ' 172 = τ 172 → τ' 175 = τ 175 → Iv τ → Iv τ'
section Go
variable {t : Nat} {th : Int} {σ σ' σ'' τ τ' τ'' : Sg} {K : Sg → Option Sg} {Iv : Sg → Prop}
theorem FR.x (h : FR t σ σ' τ τ') : FX t σ σ' τ τ' := ⟨h.1, h.2.1, fun c _ a _ b d => h.2.2.1 c a b d, h.2.2.2.1, h.2.2.2.2.1, h.2.2.2.2.2, fun j _ _ _ => by rw [h.2.2.1 172 (by decide) (by decide) (by decide)]⟩
theorem FX.refl : FX t σ σ τ τ := FR.refl.x
theorem FX.trans (h : FX t σ σ' τ τ') (h' : FX t σ' σ'' τ' τ'') : FX t σ σ'' τ τ'' :=
  ⟨fun c a b d e f => (h'.1 c a b d e f).trans (h.1 c a b d e f), fun a => (h'.2.1 a).trans (h.2.1 a), fun c a b d e f => (h'.2.2.1 c a b d e f).trans (h.2.2.1 c a b d e f), fun j a b => (h'.2.2.2.1 j a b).trans (h.2.2.2.1 j a b), Int.le_trans h.2.2.2.2.1 h'.2.2.2.2.1, fun a j b c => (h'.2.2.2.2.2.1 a j b c).trans (h.2.2.2.2.2.1 a j b c), fun j a b c => (h'.2.2.2.2.2.2 j a b c).trans (h.2.2.2.2.2.2 j a b c)⟩
theorem CR.kp (h : CR t th σ τ) (h3 : τ' 173 = τ 173) (h26 : τ' 172 26 = τ 172 26) (h27 : τ' 172 27 = τ 172 27) (h28 : τ' 172 28 = τ 172 28) : CR t th σ τ' := by
  unfold CR at h ⊢
  rw [h3, h26, h27, h28]; exact h
theorem quF_up {s c w : Nat → Int} (hH : HR s c w) {v x : Int} (hx : w 0 ≤ x) (h : quF w v) : quF (up w 0 x) v := by
  intro m m1 m2
  rw [up_a] at m1
  obtain ⟨q1, q2, q3, q4⟩ := h m (by omega) m2
  refine ⟨fun i hi => ?_, fun i hi => ?_, q3, fun i hi ho => ?_⟩
  · rw [up_n (by decide)] at hi; rw [up_n (by omega)]; exact q1 i hi
  · rw [up_n (by decide)] at hi; rw [mW_low (by decide)]; exact q2 i hi
  · rw [up_n (by decide)] at hi
    unfold opF at ho
    rw [mW_low (by decide), mW_low (by decide)] at ho
    rw [mW_low (by decide), rd_ag hH (fun j a b => up_n (by omega))]
    exact q4 i hi ho
/-- the reference: minutes in which nothing happens -/
theorem quK (hK : okK K Iv) {s c s' c' : Nat → Int} {v : Int} (hv : v ≤ 200000) : ∀ (q m : Nat) (acc : Int) (τ : Sg), HR s c (τ 173) → SR s' c' (τ 173) → WF (τ 173) → Iv τ → quF (τ 173) v → τ 173 0 + q ≤ v → ∃ τ', mnK K (q + m) acc τ = mnK K m acc τ' ∧ τ' 173 = up (τ 173) 0 (τ 173 0 + q) ∧ Iv τ' ∧ τ' 172 26 = τ 172 26 ∧ τ' 172 27 = τ 172 27 ∧ (∀ j, j ≠ 4 → j ≠ 26 → j ≠ 27 → τ' 172 j = τ 172 j) ∧ ∀ c, c ≠ 172 → c ≠ 173 → c ≠ 175 → τ' c = τ c
  | 0, m, acc, τ, hH, hS, hW, hI, hq, hl => by
    refine ⟨τ, by rw [Nat.zero_add], ?_, hI, rfl, rfl, fun _ _ _ _ => rfl, fun _ _ _ _ => rfl⟩
    funext j
    by_cases e : j = 0
    · rw [e, up_a]; omega
    · rw [up_n e]
  | q + 1, m, acc, τ, hH, hS, hW, hI, hq, hl => by
    have b0 := hW.1
    obtain ⟨τk, k1, k2, k3, k4, k5, k6⟩ := hK.1 τ hI
    have e173 : τk 173 = τ 173 := k5 173 (by decide) (by decide)
    obtain ⟨q1, q2, q3, q4⟩ := hq (τ 173 0) (Int.le_refl _) (by omega)
    have hm : Mo_aMinute τk = some (0, su τk 173 0 (τ 173 0 + 1)) := by
      have := quietM (τ := τk) (by rw [e173]; exact hH) (by rw [e173]; exact hS) (by rw [e173]; exact hW) (by rw [e173]; omega) (by rw [e173]; exact q1) (by
        rw [e173]
        intro i hi hc
        exact hc.2.2 (q4 i hi hc.1)) (by rw [e173]; exact q2) (by rw [e173]; exact q3)
      rw [e173] at this
      exact this
    have e1 : su τk 173 0 (τ 173 0 + 1) 173 = up (τ 173) 0 (τ 173 0 + 1) := by rw [su_s, e173]
    obtain ⟨τ', r1, r2, r3, r4, r5, r6, r7⟩ := quK hK (s := s) (c := c) (s' := s') (c' := c') hv q m (acc + 0) (su τk 173 0 (τ 173 0 + 1)) (by rw [e1]; exact HR.ag hH (fun j _ => up_n (by omega))) (by rw [e1]; exact SR.ag hS (fun j _ => up_n (by omega))) (by
        rw [e1]
        refine WF.min hW (by omega) (fun i hi => ?_)
        have m8 := (hW.2.2.2.2 i hi).2.2.2.2.2.2.2.2.1
        have := q2 i hi
        rcases m8 with z | z
        · exact .inl z
        · right; omega) (hK.2 _ _ (su_c (by decide)) (su_c (by decide)) k6) (by rw [e1]; exact quF_up hH (by omega) hq) (by rw [e1, up_a]; omega)
    refine ⟨τ', ?_, ?_, r3, ?_, ?_, fun j a b d => ?_, fun c a b d => ?_⟩
    · rw [show q + 1 + m = (q + m) + 1 by omega, mnK_s, k1, b1_q, hm, b2_q, r1, Int.add_zero]
    · rw [r2, e1, up_a]
      funext j
      by_cases e : j = 0
      · rw [e, up_a, up_a]; omega
      · rw [up_n e, up_n e, up_n e]
    · rw [r4, su_c (by decide)]; exact k2
    · rw [r5, su_c (by decide)]; exact k3
    · rw [r6 j a b d, su_c (by decide)]; exact k4 j a b d
    · rw [r7 c a b d, su_c b]; exact k5 c a d
theorem CR.goL (hK : okK K Iv) {n : Int} {fin : Int} (hf : fin ≤ 200000) (hn : 0 ≤ n ∧ n ≤ 100000) : ∀ (m : Nat) (i acc : Int) (σ τ : Sg), CR t th σ τ → Iv τ → τ 173 0 + m = fin → 0 ≤ i → i + m ≤ n → ∃ σ' τ', Co_go_12_w n fin i σ = some σ' ∧ mnK K m acc τ = some (acc + (τ' 173 3 - τ 173 3), τ') ∧ CR t th σ' τ' ∧ FX t σ σ' τ τ' ∧ Iv τ' ∧ τ' 173 0 = fin := by
  intro m
  induction m using Nat.strongRecOn with
  | ind m ih =>
    intro i acc σ τ h hI hw hi0 hi
    have htk := h.tkk
    have htt := h.tt
    have b0 := h.WF.1
    rcases Nat.eq_zero_or_pos m with z | z
    · subst z
      refine ⟨σ, τ, wl_end ?_, by unfold mnK; rw [Int.sub_self, Int.add_zero], h, FX.refl, hI, by omega⟩
      show Co_go_12_b n fin i σ = _
      unfold Co_go_12_b
      by_cases y : i < n
      · rw [if_pos y, h.tn, isT_q htk, h.TR.1, if_neg (by omega)]
      · rw [if_neg y]
    · obtain ⟨v, v1, v2, v3⟩ := quC h
      obtain ⟨q, hq⟩ := Int.eq_ofNat_of_zero_le (show 0 ≤ min (fin - 1) v - τ 173 0 by omega)
      have hq : min (fin - 1) v - τ 173 0 = (q : Int) := hq
      have hv3 : quF (τ 173) (min (fin - 1) v) := fun x x1 x2 => v3 x x1 (by omega)
      obtain ⟨τq, r1, r2, r3, r4, r5, r6, r7⟩ := quK hK (v := min (fin - 1) v) (by omega) q (m - q) acc τ h.HR h.SR h.WF hI hv3 (by omega)
      obtain ⟨A1, A2⟩ := h.mnt (v := τ 173 0 + q) (by omega) (fun k hk => by
        have m8 := (h.WF.2.2.2.2 k hk).2.2.2.2.2.2.2.2.1
        rcases m8 with y | y
        · exact .inl y
        · right
          rcases Int.lt_or_le (mW (τ 173) k 8) (τ 173 0 + q) with x | x
          · exact absurd rfl ((v3 (mW (τ 173) k 8) y.1 (by omega)).2.1 k hk)
          · exact x)
      have B1 : CR t th (su σ t 0 (τ 173 0 + q)) τq := A1.kp (by rw [r2, su_s]) (by rw [r4, su_c (by decide)]) (by rw [r5, su_c (by decide)]) (by rw [r6 28 (by decide) (by decide) (by decide), su_c (by decide)])
      obtain ⟨τk, k1, k2, k3, k4, k5, k6⟩ := hK.1 τq r3
      have e173 : τk 173 = τq 173 := k5 173 (by decide) (by decide)
      have C1 : CR t th (su σ t 0 (τ 173 0 + q)) τk := B1.kp e173 k2 k3 (k4 28 (by decide) (by decide) (by decide))
      have wk : τk 173 0 = τ 173 0 + q := by rw [e173, r2, up_a]
      have wk3 : τk 173 3 = τ 173 3 := by rw [e173, r2, up_n (by decide)]
      obtain ⟨σ1, τ1, p1, p2, D1, D2, p5⟩ := C1.pass (by omega)
      obtain ⟨σ', τ', g1, g2, g3, g4, g5, g6⟩ := ih (m - q - 1) (by omega) (i + 1) (acc + (τ1 173 3 - τk 173 3)) σ1 τ1 D1 (hK.2 _ _ (D2.2.2.1 172 (by decide) (by decide) (by decide)) (D2.2.2.1 175 (by decide) (by decide) (by decide)) k6) (by omega) (by omega) (by omega)
      have F0 : FX t σ (su σ t 0 (τ 173 0 + q)) τ τk := by
        refine ⟨fun c a _ _ _ _ => su_c (by omega), fun _ => su_c (by omega), fun c a1 a2 a3 _ _ => ?_, fun j a _ => ?_, ?_, fun _ j a b => ?_, fun j a b d => ?_⟩
        · rw [k5 c a1 a3, r7 c a1 a2 a3]
        · rw [e173, r2, up_n (by omega)]
        · rw [e173, r2, up_n (by omega)]; exact Int.le_refl _
        · rw [e173, r2, up_n (by omega)]
        · rw [k4 j a b d, r6 j a b d]
      refine ⟨σ', τ', ?_, ?_, g3, (F0.trans D2.x).trans g4, g5, g6⟩
      · rw [← g1]
        refine wl_go ?_
        show Co_go_12_b n fin i σ = _
        unfold Co_go_12_b
        rw [if_pos (by omega), h.tn, isT_q htk, h.TR.1, if_pos (by omega), isT_q htk, v1, b1_q, wr_q (n := fin - 1) (by omega) (by omega), min_q, b1_q, ll_q, show min (fin - 1) v = τ 173 0 + q by omega, p1, b1_q, wr_q (by omega) (by omega), ll_q]
      · rw [show m = q + (m - q) by omega, r1, show m - q = (m - q - 1) + 1 by omega, mnK_s, k1, b1_q, p2, b2_q, g2]
        congr 1
        congr 1
        omega
theorem CR.go (hK : okK K Iv) (h : CR t th σ τ) (hI : Iv τ) {n : Nat} (hn : n ≤ 1000) (hw : τ 173 0 + n ≤ 200000) (acc : Int) : ∃ σ' τ', Co_go (n : Int) σ = some σ' ∧ mnK K n acc τ = some (acc + (τ' 173 3 - τ 173 3), τ') ∧ CR t th σ' τ' ∧ FX t σ σ' τ τ' ∧ Iv τ' ∧ τ' 173 0 = τ 173 0 + n := by
  have b0 := h.WF.1
  obtain ⟨σ', τ', g1, g2, g3, g4, g5, g6⟩ := CR.goL hK (n := (n : Int)) (fin := τ 173 0 + n) hw (by omega) n 0 acc σ τ h hI rfl (by omega) (by omega)
  refine ⟨σ', τ', ?_, g2, g3, g4, g5, g6⟩
  unfold Co_go
  rw [h.tn, isT_q h.tkk, h.TR.1, wr_q (by omega) (by omega), ll_q]
  exact g1
end Go
