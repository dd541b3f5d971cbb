/-! a course's small steps -/
section Steps2
variable {t : Nat} {th : Int} {σ τ : Sg}
theorem actF_ag {w w' : Nat → Int} {one hour : Int} : ∀ (n i : Nat), (∀ j, 555 ≤ j → j < 555 + 4 * (i + n) → w' j = w j) → actF w' one hour i n = actF w one hour i n
  | 0, i, _ => rfl
  | n + 1, i, h => by
    unfold actF
    rw [actF_ag n (i + 1) (fun j h1 h2 => h j h1 (by omega)), h (555 + 4 * i) (by omega) (by omega), h (555 + (4 * i + 1)) (by omega) (by omega), h (555 + (4 * i + 2)) (by omega) (by omega), h (555 + (4 * i + 3)) (by omega) (by omega)]
theorem act_ag {s c w w' : Nat → Int} (hH : HR s c w) {one hour : Int} (h : ∀ j, 548 ≤ j → j < 733 → w' j = w j) : act w' one hour = act w one hour := by
  have := hH.2.1
  unfold act
  rw [h 551 (by decide) (by decide)]
  exact actF_ag _ _ (fun j h1 h2 => h j (by omega) (by omega))
theorem CR.HR (h : CR t th σ τ) : HR (σ 20) (σ 21) (τ 173) := h.2.2.2.2.2.1.2.1
theorem CR.SR (h : CR t th σ τ) : SR (σ 23) (σ 24) (τ 173) := h.2.2.2.2.2.1.2.2.1
theorem CR.LR (h : CR t th σ τ) : LR (σ 17) (σ 18) (σ 19) (τ 173) := h.2.2.2.2.2.1.2.2.2.2.1
theorem CR.TR (h : CR t th σ τ) : TR t σ (τ 173) := h.2.2.1
theorem CR.WF (h : CR t th σ τ) : WF (τ 173) := h.2.2.2.1
theorem CR.crs (h : CR t th σ τ) {one : Nat} (ho : one < 2) {v : Int} (hv : 0 ≤ v ∧ v ≤ 99) : CR t th (su σ (t + 1) one v) (su τ 173 (4 + one) v) ∧ FR t σ (su σ (t + 1) one v) τ (su τ 173 (4 + one) v) :=
  h.talk (h.TR.cross ho) (h.WF.cross ho hv) su_s (fun c hc => su_c hc) (fun j hj => up_n (by omega)) (up_n (by omega)) (fun c hc => su_c (by omega))
theorem CR.tok (h : CR t th σ τ) {one : Nat} (ho : one < 2) {v : Int} (hv : 0 ≤ v ∧ v ≤ 9999) : CR t th (su σ (t + 2) one v) (su τ 173 (6 + one) v) ∧ FR t σ (su σ (t + 2) one v) τ (su τ 173 (6 + one) v) :=
  h.talk (h.TR.took ho) (h.WF.took ho hv) su_s (fun c hc => su_c hc) (fun j hj => up_n (by omega)) (up_n (by omega)) (fun c hc => su_c (by omega))
theorem CR.sta (h : CR t th σ τ) {v : Int} : CR t th (su σ t 1 v) (su τ 173 1 v) ∧ FR t σ (su σ t 1 v) τ (su τ 173 1 v) :=
  h.talk h.TR.stateS h.WF.lowS su_s (fun c hc => su_c hc) (fun j hj => up_n (by omega)) (up_n (by omega)) (fun c hc => su_c (by omega))
theorem CR.mnt (h : CR t th σ τ) {v : Int} (hv : τ 173 0 ≤ v ∧ v ≤ 200000) (hd : ∀ i : Nat, (i : Int) < τ 173 3 → mW (τ 173) i 8 = -1 ∨ v ≤ mW (τ 173) i 8) : CR t th (su σ t 0 v) (su τ 173 0 v) ∧ FR t σ (su σ t 0 v) τ (su τ 173 0 v) :=
  h.talk h.TR.minute (h.WF.min hv hd) su_s (fun c hc => su_c hc) (fun j hj => up_n (by omega)) (up_n (by omega)) (fun c hc => su_c (by omega))
theorem CR.red (h : CR t th σ τ) {i : Nat} (hi : (i : Int) < τ 173 3) (h2 : mW (τ 173) i 2 = -1) (h7 : mW (τ 173) i 7 = 0) (h1 : mW (τ 173) i 1 < τ 173 0) : CR t th (su (su σ (t + 6) i (τ 173 0)) t 4 (σ t 4 - 1)) (su τ 173 (8 + 9 * i + 2) (τ 173 0)) ∧ FR t σ (su (su σ (t + 6) i (τ 173 0)) t 4 (σ t 4 - 1)) τ (su τ 173 (8 + 9 * i + 2) (τ 173 0)) := by
  have b60 := h.WF.2.2.1
  have b0 := h.WF.1
  have b1' := (h.WF.2.2.2.2 i hi).2.1
  have ct : su (su σ (t + 6) i (τ 173 0)) t 4 (σ t 4 - 1) t = up (σ t) 4 (σ t 4 - 1) := by rw [su_s, su_c (by omega)]
  have s4 : σ t 4 = opn (τ 173) (τ 173 3).toNat := h.TR.2.2.2.2.1
  refine h.talk (TR.fld (f := 2) (o := σ t 4 - 1) (a := σ t 5) h.TR (by decide) hi b60.2 (by rw [su_c (by omega), show t + 4 + 2 = t + 6 by omega, su_s]) (fun c h1 h2 h3 => by rw [su_c (by omega), su_c (by omega)]) (fun j h1 h2 => by rw [ct, up_n h1]) (by rw [ct, up_a]) (by rw [ct, up_n (by decide)]) ?_ ?_) (h.WF.fld hi (.inl rfl) (fun _ => ⟨h1, Int.le_refl _⟩) (fun z => by omega) (fun z => by omega)) su_s (fun c hc => su_c hc) (fun j hj => up_n (by omega)) (up_n (by omega)) (fun c hc => by rw [su_c (by omega), su_c (by omega)])
  · rw [opn_off (w := τ 173) (w' := up (τ 173) (8 + 9 * i + 2) (τ 173 0)) _ i (by omega) ⟨h2, h7⟩ (fun z => by
      have z1 := z.1
      rw [mW_at] at z1; omega) (fun k hk => ⟨mW_ne (by decide) (by decide) (.inl hk), mW_ne (by decide) (by decide) (.inl hk)⟩), ← s4]
  · rw [awt_agr (w := τ 173) _ (fun k _ => mW_ne (by decide) (by decide) (.inr (by decide)))]; exact h.TR.2.2.2.2.2.1
theorem CR.due (h : CR t th σ τ) {i : Nat} (hi : (i : Int) < τ 173 3) (h8 : mW (τ 173) i 8 = -1) (h2 : mW (τ 173) i 2 ≠ -1) {v : Int} (hv : τ 173 0 ≤ v ∧ v ≤ τ 173 0 + 1000) : CR t th (su (su σ (t + 12) i v) t 5 (σ t 5 + 1)) (su τ 173 (8 + 9 * i + 8) v) ∧ FR t σ (su (su σ (t + 12) i v) t 5 (σ t 5 + 1)) τ (su τ 173 (8 + 9 * i + 8) v) := by
  have b60 := h.WF.2.2.1
  have b0 := h.WF.1
  have ct : su (su σ (t + 12) i v) t 5 (σ t 5 + 1) t = up (σ t) 5 (σ t 5 + 1) := by rw [su_s, su_c (by omega)]
  have s5 : σ t 5 = awt (τ 173) (τ 173 3).toNat := h.TR.2.2.2.2.2.1
  refine h.talk (TR.fld (f := 8) (o := σ t 4) (a := σ t 5 + 1) h.TR (by decide) hi b60.2 (by rw [su_c (by omega), show t + 4 + 8 = t + 12 by omega, su_s]) (fun c h1 h2 h3 => by rw [su_c (by omega), su_c (by omega)]) (fun j h1 h2 => by rw [ct, up_n h2]) (by rw [ct, up_n (by decide)]) (by rw [ct, up_a]) ?_ ?_) (h.WF.fld hi (.inr (.inr rfl)) (fun z => by omega) (fun z => by omega) (fun _ => .inr ⟨hv.1, hv.2, h2⟩)) su_s (fun c hc => su_c hc) (fun j hj => up_n (by omega)) (up_n (by omega)) (fun c hc => by rw [su_c (by omega), su_c (by omega)])
  · rw [opn_agr (w := τ 173) _ (fun k _ => ⟨mW_ne (by decide) (by decide) (.inr (by decide)), mW_ne (by decide) (by decide) (.inr (by decide))⟩)]; exact h.TR.2.2.2.2.1
  · rw [awt_on (w := τ 173) (w' := up (τ 173) (8 + 9 * i + 8) v) _ i (by omega) h8 (by rw [mW_at]; omega) (fun k hk => mW_ne (by decide) (by decide) (.inl hk)), ← s5]
theorem CR.und (h : CR t th σ τ) {i : Nat} (hi : (i : Int) < τ 173 3) (h8 : mW (τ 173) i 8 ≠ -1) : CR t th (su (su σ (t + 12) i (-1)) t 5 (σ t 5 - 1)) (su τ 173 (8 + 9 * i + 8) (-1)) ∧ FR t σ (su (su σ (t + 12) i (-1)) t 5 (σ t 5 - 1)) τ (su τ 173 (8 + 9 * i + 8) (-1)) := by
  have b60 := h.WF.2.2.1
  have ct : su (su σ (t + 12) i (-1)) t 5 (σ t 5 - 1) t = up (σ t) 5 (σ t 5 - 1) := by rw [su_s, su_c (by omega)]
  have s5 : σ t 5 = awt (τ 173) (τ 173 3).toNat := h.TR.2.2.2.2.2.1
  refine h.talk (TR.fld (f := 8) (o := σ t 4) (a := σ t 5 - 1) h.TR (by decide) hi b60.2 (by rw [su_c (by omega), show t + 4 + 8 = t + 12 by omega, su_s]) (fun c h1 h2 h3 => by rw [su_c (by omega), su_c (by omega)]) (fun j h1 h2 => by rw [ct, up_n h2]) (by rw [ct, up_n (by decide)]) (by rw [ct, up_a]) ?_ ?_) (h.WF.fld hi (.inr (.inr rfl)) (fun z => by omega) (fun z => by omega) (fun _ => .inl rfl)) su_s (fun c hc => su_c hc) (fun j hj => up_n (by omega)) (up_n (by omega)) (fun c hc => by rw [su_c (by omega), su_c (by omega)])
  · rw [opn_agr (w := τ 173) _ (fun k _ => ⟨mW_ne (by decide) (by decide) (.inr (by decide)), mW_ne (by decide) (by decide) (.inr (by decide))⟩)]; exact h.TR.2.2.2.2.1
  · rw [awt_off (w := τ 173) (w' := up (τ 173) (8 + 9 * i + 8) (-1)) _ i (by omega) h8 (by rw [mW_at]) (fun k hk => mW_ne (by decide) (by decide) (.inl hk)), ← s5]
/-- the facts laid on both sides -/
theorem CR.jud (h : CR t th σ τ) {i : Nat} (hi : (i : Int) < τ 173 3) : ∃ σ1 σ2 τ1, Ju_sit 1 t (1 - mW (τ 173) i 0) σ = some σ1 ∧ Ju_lay (mW (τ 173) i 3) (mW (τ 173) i 4) (mW (τ 173) i 5) σ1 = some σ2 ∧ Mo_laysMessage (i : Int) τ = some τ1 ∧ (∀ c, c ≠ 150 → σ1 c = σ c) ∧ (∀ c, c ≠ 150 → σ2 c = σ c) ∧ (∀ c, c ≠ 182 → τ1 c = τ c) ∧ (∀ j, j < 10 → σ2 150 j = fcF (τ 173) (1 - mW (τ 173) i 0) (mW (τ 173) i 3) (mW (τ 173) i 4) (mW (τ 173) i 5) (j + 1)) ∧ ∀ j, 1 ≤ j → j ≤ 10 → τ1 182 j = fcF (τ 173) (1 - mW (τ 173) i 0) (mW (τ 173) i 3) (mW (τ 173) i 4) (mW (τ 173) i 5) j := by
  have m0 := (h.WF.2.2.2.2 i hi).1
  obtain ⟨τ1, g1, g2, g3⟩ := laysMsgM h.HR h.WF hi
  obtain ⟨σ1, σ2, f1, f2, f3, f4, f5⟩ := sitC h.tt h.TR h.2.2.2.2.1 h.HR h.WF.1.1 (one := 1 - mW (τ 173) i 0) (by omega) (mW (τ 173) i 3) (mW (τ 173) i 4) (mW (τ 173) i 5)
  exact ⟨σ1, σ2, τ1, f1, f2, g1, f3, f4, g2, f5, g3⟩
end Steps2
