/-! the facts of one who has a message before him -/
section Facts
variable {σ τ : Sg}
/-- the reference's facts -/
def fcF (w : Nat → Int) (one lasting kisses stop : Int) (j : Nat) : Int := match j with
  | 1 => one
  | 2 => w (4 + one.toNat)
  | 3 => w (6 + one.toNat)
  | 4 => lasting
  | 5 => kisses
  | 6 => stop
  | 7 => if act w one (Int.tmod (Int.tdiv (w 0) 60) 24) = 1 then 1 else 0
  | 8 => Int.tmod (Int.tdiv (w 0) 60) 24
  | 9 => w (548 + (1 - one).toNat)
  | _ => w 3
theorem HR.same {s c : Nat → Int} {τ' : Sg} (h : HR s c (τ 173)) (e : τ' 173 = τ 173) : HR s c (τ' 173) := by rw [e]; exact h
theorem laysM {s c : Nat → Int} (hH : HR s c (τ 173)) (h0 : 0 ≤ τ 173 0) {one : Int} (ho : one = 0 ∨ one = 1) (l k st : Int) : ∃ τ', Mo_lays one l k st τ = some τ' ∧ (∀ c, c ≠ 182 → τ' c = τ c) ∧ ∀ j, 1 ≤ j → j ≤ 10 → τ' 182 j = fcF (τ 173) one l k st j := by
  obtain ⟨i, rfl⟩ := Int.eq_ofNat_of_zero_le (show 0 ≤ one by omega)
  have hi : i < 2 := by omega
  have hh := hour_in h0
  unfold Mo_lays Mo_hourNow
  have e4 : (4 + (i : Int)).toNat = 4 + i := by omega
  have e6 : (6 + (i : Int)).toNat = 6 + i := by omega
  have e5 : (549 - (i : Int)).toNat = 548 + (1 - i) := by omega
  have e1 : (1 - (i : Int)).toNat = 1 - i := by omega
  have aM := fun (τ' : Sg) (e : τ' 173 = τ 173) => actM (τ := τ') (hH.same e) (one := (i : Int)) hh
  simp only [ll_q, b1_q, su_c (show (173 : Nat) ≠ 182 by decide)]
  rw [ix_q (by omega) (by omega), ix_q (by omega) (by omega), aM _ (by simp only [su_c (show (173 : Nat) ≠ 182 by decide)])]
  simp only [b1_q, su_c (show (173 : Nat) ≠ 182 by decide)]
  have hb : (if act (τ 173) (i : Int) (Int.tmod (Int.tdiv (τ 173 0) 60) 24) = 1 then some (1 : Int) else some 0) = some (if act (τ 173) (i : Int) (Int.tmod (Int.tdiv (τ 173 0) 60) 24) = 1 then 1 else 0) := by split <;> rfl
  rw [hb, b1_q, ix_q (by omega) (by omega), e4, e6, e5]
  refine ⟨_, rfl, fun c hc => ?_, fun j h1 h2 => ?_⟩
  · simp only [su_c hc]
  · simp only [su_s]
    have hj : j = 1 ∨ j = 2 ∨ j = 3 ∨ j = 4 ∨ j = 5 ∨ j = 6 ∨ j = 7 ∨ j = 8 ∨ j = 9 ∨ j = 10 := by omega
    rcases hj with rfl | rfl | rfl | rfl | rfl | rfl | rfl | rfl | rfl | rfl <;> simp [up, fcF, e1]
theorem sitC {w : Nat → Int} {t : Nat} (ht : t = 2 ∨ t = 153) (hT : TR t σ w) (hK : ∀ j, j < 2 → σ (t + 3) j = w (548 + j)) (hH : HR (σ 20) (σ 21) w) (h0 : 0 ≤ w 0) {one : Int} (ho : one = 0 ∨ one = 1) (l k st : Int) :
    ∃ σ1 σ2, Ju_sit 1 t one σ = some σ1 ∧ Ju_lay l k st σ1 = some σ2 ∧ (∀ c, c ≠ 150 → σ1 c = σ c) ∧ (∀ c, c ≠ 150 → σ2 c = σ c) ∧ ∀ j, j < 10 → σ2 150 j = fcF w one l k st (j + 1) := by
  obtain ⟨i, rfl⟩ := Int.eq_ofNat_of_zero_le (show 0 ≤ one by omega)
  have hi : i < 2 := by omega
  have hh := hour_in h0
  have ne1 : t + 1 ≠ 150 := by omega
  have ne2 : t + 2 ≠ 150 := by omega
  have ne3 : t + 3 ≠ 150 := by omega
  have ne0 : t ≠ 150 := by omega
  have e1 : (1 - (i : Int)).toNat = 1 - i := by omega
  have k1 := (hT.2.2.2.2.2.2.1 i hi).1
  have k2 := (hT.2.2.2.2.2.2.1 i hi).2
  have k3 := hK (1 - i) (by omega)
  unfold Ju_sit Ju_lay Ta_hour
  simp only [ll_q, b1_q, su_c ne1, su_c ne2, su_c ne3, su_c ne0]
  rw [ix_q (by omega) (by omega), ix_q (by omega) (by omega), hT.1]
  have aC := actC (σ := su (su (su σ 150 0 (i : Int)) 150 1 (σ (t + 1) ((i : Int)).toNat)) 150 2 (σ (t + 2) ((i : Int)).toNat)) (W := 1) rfl (w := w) (by simp only [su_c (show (1 + 19 : Nat) ≠ 150 by decide), su_c (show (1 + 20 : Nat) ≠ 150 by decide)]; exact hH) (one := (i : Int)) hh
  rw [aC, b1_q]
  have hb : (if act w (i : Int) (Int.tmod (Int.tdiv (w 0) 60) 24) = 1 then some (1 : Int) else some 0) = some (if act w (i : Int) (Int.tmod (Int.tdiv (w 0) 60) 24) = 1 then 1 else 0) := by split <;> rfl
  rw [hb, b1_q, ix_q (by omega) (by omega), e1, Int.toNat_natCast, k1, k2, k3, hT.2.2.1]
  refine ⟨_, _, rfl, rfl, fun c hc => ?_, fun c hc => ?_, fun j hj => ?_⟩
  · simp only [su_c hc]
  · simp only [su_c hc]
  · simp only [su_s]
    have hc : j = 0 ∨ j = 1 ∨ j = 2 ∨ j = 3 ∨ j = 4 ∨ j = 5 ∨ j = 6 ∨ j = 7 ∨ j = 8 ∨ j = 9 := by omega
    rcases hc with rfl | rfl | rfl | rfl | rfl | rfl | rfl | rfl | rfl | rfl <;> simp [up, fcF, e1]
end Facts
