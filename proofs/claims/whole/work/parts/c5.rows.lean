/-! text: rows of hours, sayings, habits: their words and numbers -/
def FW (σ σ' τ τ' : Sg) : Prop :=
  (∀ c, c ≠ 141 → c ≠ 142 → c ≠ 143 → σ' c = σ c) ∧ (∀ j, j ≠ 2 → j ≠ 3 → j ≠ 9 → σ' 141 j = σ 141 j) ∧ (∀ j, j ≠ 2 → σ' 142 j = σ 142 j) ∧
  (∀ c, c ≠ 172 → c ≠ 179 → τ' c = τ c) ∧ ∀ j, (j < 17 ∨ 23 ≤ j) → τ' 172 j = τ 172 j
def RUN (oC oM : Option (Int × Sg)) (σ τ : Sg) (Q : Sg → Sg → Prop) : Prop := ∃ r σ' τ', oC = some (r, σ') ∧ oM = some (r, τ') ∧ FW σ σ' τ τ' ∧ ((r = 0 ∧ FAIL σ' τ') ∨ (r = 1 ∧ Q σ' τ'))
section Rows
variable {c : Nat → Int} {n k T : Nat} {q : Nat → Nat} {i : Nat} {σ σ' σ'' τ τ' τ'' : Sg}
theorem FW.refl : FW σ σ τ τ := ⟨fun _ _ _ _ => rfl, fun _ _ _ _ => rfl, fun _ _ => rfl, fun _ _ _ => rfl, fun _ _ => rfl⟩
theorem FW.trans (h : FW σ σ' τ τ') (h' : FW σ' σ'' τ' τ'') : FW σ σ'' τ τ'' := ⟨fun c a b d => (h'.1 c a b d).trans (h.1 c a b d), fun j a b d => (h'.2.1 j a b d).trans (h.2.1 j a b d), fun j a => (h'.2.2.1 j a).trans (h.2.2.1 j a), fun c a b => (h'.2.2.2.1 c a b).trans (h.2.2.2.1 c a b), fun j a => (h'.2.2.2.2 j a).trans (h.2.2.2.2 j a)⟩
theorem FW.P (h : FW σ σ' τ τ') : FP σ σ' τ τ' := ⟨fun c a b d _ => h.1 c a b d, h.2.1, fun c a _ _ b => h.2.2.2.1 c a b, fun j a => h.2.2.2.2 j (by omega)⟩
theorem RUN.seq {oC oM : Option (Int × Sg)} {Q Q' : Sg → Sg → Prop} {fC fM : Sg → Option (Int × Sg)} (h : RUN oC oM σ τ Q) (h' : ∀ σ' τ', Q σ' τ' → RUN (fC σ') (fM τ') σ' τ' Q') : RUN (b2 oC fun r s => if r = 0 then some (0, s) else fC s) (b2 oM fun r s => if r = 0 then some (0, s) else fM s) σ τ Q' := by
  obtain ⟨r, σ1, τ1, h1, h2, h3, h4⟩ := h
  rcases h4 with ⟨r0, h4⟩ | ⟨r0, h4⟩
  · subst r0
    exact ⟨0, σ1, τ1, by rw [h1, b2_q, if_pos rfl], by rw [h2, b2_q, if_pos rfl], h3, .inl ⟨rfl, h4⟩⟩
  · subst r0
    obtain ⟨r, σ2, τ2, g1, g2, g3, g4⟩ := h' σ1 τ1 h4
    exact ⟨r, σ2, τ2, by rw [h1, b2_q, if_neg (by decide), g1], by rw [h2, b2_q, if_neg (by decide), g2], h3.trans g3, g4⟩
theorem RUN.imp {oC oM : Option (Int × Sg)} {Q Q' : Sg → Sg → Prop} (h : RUN oC oM σ τ Q) (h' : ∀ σ' τ', Q σ' τ' → Q' σ' τ') : RUN oC oM σ τ Q' := by
  obtain ⟨r, σ1, τ1, h1, h2, h3, h4⟩ := h
  exact ⟨r, σ1, τ1, h1, h2, h3, h4.imp id (fun ⟨a, b⟩ => ⟨a, h' _ _ b⟩)⟩
theorem RUN.one {oC oM : Option (Int × Sg)} {Q : Sg → Sg → Prop} (h : RUN oC oM σ τ Q) : RUN oC (b2 oM fun r s => if r = 0 then some (0, s) else some (1, s)) σ τ Q := by
  obtain ⟨r, σ1, τ1, h1, h2, h3, h4⟩ := h
  refine ⟨r, σ1, τ1, h1, ?_, h3, h4⟩
  rcases h4 with ⟨r0, -⟩ | ⟨r0, -⟩ <;> subst r0
  · rw [h2, b2_q, if_pos rfl]
  · rw [h2, b2_q, if_neg (by decide)]
theorem RUN.oneC {oC oM : Option (Int × Sg)} {Q : Sg → Sg → Prop} (h : RUN oC oM σ τ Q) : RUN (b2 oC fun r s => if r = 0 then some (0, s) else some (1, s)) oM σ τ Q := by
  obtain ⟨r, σ1, τ1, h1, h2, h3, h4⟩ := h
  refine ⟨r, σ1, τ1, ?_, h2, h3, h4⟩
  rcases h4 with ⟨r0, -⟩ | ⟨r0, -⟩ <;> subst r0
  · rw [h1, b2_q, if_pos rfl]
  · rw [h1, b2_q, if_neg (by decide)]
theorem b2_as {o : Option (Int × Sg)} {f g : Sg → Option (Int × Sg)} : (b2 o fun r s => if r = 0 then some (0, s) else b2 (f s) fun r s => if r = 0 then some (0, s) else g s) = b2 (b2 o fun r s => if r = 0 then some (0, s) else f s) fun r s => if r = 0 then some (0, s) else g s := by
  cases o with
  | none => rfl
  | some p =>
    obtain ⟨r, s⟩ := p
    rw [b2_q, b2_q]
    by_cases z : r = 0
    · rw [if_pos z, if_pos z, b2_q, if_pos rfl]
    · rw [if_neg z, if_neg z]
/-- both go on behind a token of a row -/
theorem PX.nxw (h : PX c n k T q i σ τ) (hi : i < T) : ∃ σ' τ', Re_advance σ = some σ' ∧ Mo_next0 τ = some τ' ∧ PX c n k T q (i + 1) σ' τ' ∧ FW σ σ' τ τ' ∧ σ' 142 = σ 142 ∧ σ' 143 = σ 143 ∧ τ' 179 = τ 179 := by
  obtain ⟨σ', τ', a1, a2, a3, a4, a5, a6, a7⟩ := h.adv
  rw [if_pos hi] at a3
  exact ⟨σ', τ', a1, a2, a3, ⟨fun c a _ _ => a4 c a, fun j _ _ b => a5 j b, fun j _ => by rw [a4 142 (by decide)], fun c a _ => a6 c a, fun j hj => a7 j (by omega) (by omega) (by omega) (by omega)⟩, a4 142 (by decide), a4 143 (by decide), a6 179 (by decide)⟩
theorem PX.rfw (h : PX c n k T q i σ τ) (x : Int) : ∃ σ' τ', Re_refuse x σ = some (0, σ') ∧ Mo_bad x τ = some (0, τ') ∧ FW σ σ' τ τ' ∧ FAIL σ' τ' := by
  have b4 := h.i4
  obtain ⟨-, ⟨a1, a2, a3⟩, -, d1, d2, d3, d4⟩ := h
  refine ⟨su (su σ 141 2 x) 141 3 (σ 148 i), su (su τ 172 21 x) 172 22 (τ 172 19), ?_, ?_, ⟨fun c a _ _ => by rw [su_c a, su_c a], fun j a b _ => by rw [su_s, up_n b, su_s, up_n a], fun j _ => by rw [su_c (by decide), su_c (by decide)], fun c a _ => by rw [su_c a, su_c a], fun j a => by rw [su_s, up_n (by omega), su_s, up_n (by omega)]⟩, ?_, ?_⟩
  · unfold Re_refuse
    have e : su σ 141 2 x 141 9 = i := by rw [su_s, up_n (by decide)]; exact a2
    rw [ll_q, e, ix_q (by omega) (by omega), ll_q, Int.toNat_natCast, su_c (show (148 : Nat) ≠ 141 by decide)]
  · unfold Mo_bad
    rw [ll_q, ll_q, su_s, up_n (show (19 : Nat) ≠ 21 by decide)]
  · rw [su_s, up_n (by decide), su_s, up_a, su_s, up_n (by decide), su_s, up_a]
  · rw [su_s, up_a, su_s, up_a, d3]
/-- cells are put on both sides, then both go on -/
theorem cel1 (h : PX c n k T q i σ τ) (hi : i < T) {m pl : Nat} (hm : σ 142 2 = m) (hm96 : m < 96) (v : Int) : ∃ σ' τ', Sh_put 142 v σ = some (puS σ m v) ∧ Re_advance (puS σ m v) = some σ' ∧ Mo_next0 (su τ 179 pl v) = some τ' ∧ PX c n k T q (i + 1) σ' τ' ∧ FW σ σ' τ τ' ∧ σ' 142 2 = (m : Int) + 1 ∧ σ' 143 = up (σ 143) m v ∧ τ' 179 = up (τ 179) pl v := by
  have h2 : PX c n k T q i (puS σ m v) (su τ 179 pl v) := (puP h).ag rfl rfl rfl rfl (fun _ _ => rfl) (fun j _ => by rw [su_c (by decide)]) (su_c (by decide))
  obtain ⟨σ', τ', g1, g2, g3, g4, g5, g6, g7⟩ := h2.nxw hi
  refine ⟨σ', τ', puB hm hm96 v, g1, g2, g3, FW.trans ⟨fun x _ a b => puS_c a b, fun j _ _ _ => by rw [puS_c (by decide) (by decide)], fun j a => puS_j a, fun x _ b => su_c b, fun j _ => by rw [su_c (by decide)]⟩ g4, by rw [g5, puS_2], ?_, by rw [g7, su_s]⟩
  rw [g6]
  unfold puS
  rw [su_c (by decide), su_s]
/-- a number -/
theorem numR (h : PX c n k T q i σ τ) {m pl : Nat} (hm : σ 142 2 = m) (hm96 : m < 96) (hpl : pl < 80) (lo hi : Int) : RUN (Re_takeNumber lo hi σ) (Mo_number (pl : Int) lo hi τ) σ τ (fun σ' τ' => PX c n k T q (i + 1) σ' τ' ∧ ∃ v, lo ≤ v ∧ v ≤ hi ∧ σ' 142 2 = (m : Int) + 1 ∧ σ' 143 = up (σ 143) m v ∧ τ' 179 = up (τ 179) pl v) := by
  have b4 := h.i4
  have a9 : σ 141 9 = i := h.2.1.2.1
  unfold RUN Re_takeNumber Mo_number
  rw [a9, ix_q (by omega) (by omega), Int.toNat_natCast]
  rcases h.num with ⟨y1, y2, y3, y4, y5, y6⟩ | ⟨y1, y2⟩
  · rw [if_pos y1, if_pos y2, ix_q (by omega) (by omega), isIn_q, b1_q, y3]
    by_cases z : lo ≤ σ 147 i ∧ σ 147 i ≤ hi
    · obtain ⟨σ', τ', g1, g2, g3, g4, g5, g6, g7, g8⟩ := cel1 h y4 hm hm96 (pl := pl) (σ 147 i)
      refine ⟨1, σ', τ', ?_, ?_, g5, .inr ⟨rfl, g4, σ 147 i, z.1, z.2, g6, g7, g8⟩⟩
      · rw [if_neg (by omega), ix_q (by omega) (by omega), if_neg (by omega), b1_q, i00, ix_q (by omega) (by omega), g1, b1_q, g2, b1_q]
      · rw [if_pos z, if_neg (by decide), ix_q (by omega) (by omega), Int.toNat_natCast, ll_q, g3, b1_q]
    · obtain ⟨σ', τ', f1, f2, f3, f4⟩ := h.rfw 2
      have tC : (if σ 147 i < lo then some 1 else ix ((i : Nat) : Int) 401 (if hi < σ 147 i then some 1 else some 0)) = some (1 : Int) := by
        by_cases y : σ 147 i < lo
        · rw [if_pos y]
        · rw [if_neg y, ix_q (by omega) (by omega), if_pos (by omega)]
      refine ⟨0, σ', τ', ?_, ?_, f3, .inl ⟨rfl, f4⟩⟩
      · rw [tC, b1_q, if_neg (by decide), f1, b2_q]
      · rw [if_neg z, if_pos rfl, f2, b2_q]
  · obtain ⟨σ', τ', f1, f2, f3, f4⟩ := h.rfw 1
    exact ⟨0, σ', τ', by rw [if_neg y1, f1, b2_q], by rw [if_neg y2, f2, b2_q], f3, .inl ⟨rfl, f4⟩⟩
/-- a word -/
theorem wdR (h : PX c n k T q i σ τ) {w : Nat} (hw : w < (wids k).length) : RUN (Re_takeWord (w : Int) σ) (Mo_need ((tkT k).getD w 1) τ) σ τ (fun σ' τ' => PX c n k T q (i + 1) σ' τ' ∧ σ' 142 = σ 142 ∧ σ' 143 = σ 143 ∧ τ' 179 = τ 179) := by
  obtain ⟨r, r1, r2⟩ := h.wrd hw
  unfold RUN Re_takeWord Mo_need
  rw [r1, b1_q]
  rcases r2 with ⟨r0, rt, -, -, hi⟩ | ⟨r0, rt, -⟩
  · subst r0
    obtain ⟨σ', τ', g1, g2, g3, g4, g5, g6, g7⟩ := h.nxw hi
    exact ⟨1, σ', τ', by rw [if_neg (by decide), g1, b1_q], by rw [if_pos rt, g2, b1_q], g4, .inr ⟨rfl, g3, g5, g6, g7⟩⟩
  · subst r0
    obtain ⟨σ', τ', f1, f2, f3, f4⟩ := h.rfw 1
    exact ⟨0, σ', τ', by rw [if_pos rfl, f1, b2_q], by rw [if_neg rt, f2, b2_q], f3, .inl ⟨rfl, f4⟩⟩
theorem sgR (h : PX c n k T q i σ τ) : RUN (Re_takeSign 59 σ) (Mo_need 159 τ) σ τ (fun σ' τ' => PX c n k T q (i + 1) σ' τ' ∧ σ' 142 = σ 142 ∧ σ' 143 = σ 143 ∧ τ' 179 = τ 179) := by
  obtain ⟨r, r1, r2⟩ := h.sgn (x := 59) (by unfold isG; omega)
  unfold RUN Re_takeSign Mo_need
  rw [r1, b1_q]
  rcases r2 with ⟨r0, rt, hi⟩ | ⟨r0, rt⟩
  · subst r0
    obtain ⟨σ', τ', g1, g2, g3, g4, g5, g6, g7⟩ := h.nxw hi
    exact ⟨1, σ', τ', by rw [if_neg (by decide), g1, b1_q], by rw [if_pos (by omega), g2, b1_q], g4, .inr ⟨rfl, g3, g5, g6, g7⟩⟩
  · subst r0
    obtain ⟨σ', τ', f1, f2, f3, f4⟩ := h.rfw 1
    exact ⟨0, σ', τ', by rw [if_pos rfl, f1, b2_q], by rw [if_neg (by omega), f2, b2_q], f3, .inl ⟨rfl, f4⟩⟩
/-- a word with its number -/
theorem tdR (h : PX c n k T q i σ τ) {w m pl : Nat} (hw : w < (wids k).length) (hm : σ 142 2 = m) (hm96 : m < 96) (hpl : pl < 80) (lo hi : Int) : RUN (b2 (Re_takeWord (w : Int) σ) fun r s => if r = 0 then some (0, s) else Re_takeNumber lo hi s) (Mo_told (pl : Int) ((tkT k).getD w 1) lo hi τ) σ τ (fun σ' τ' => PX c n k T q (i + 2) σ' τ' ∧ ∃ v, lo ≤ v ∧ v ≤ hi ∧ σ' 142 2 = (m : Int) + 1 ∧ σ' 143 = up (σ 143) m v ∧ τ' 179 = up (τ 179) pl v) := by
  unfold Mo_told
  refine (wdR h hw).seq (fun σ1 τ1 ⟨p1, p2, p3, p4⟩ => ((numR p1 (by rw [p2]; exact hm) hm96 hpl lo hi).imp (fun σ2 τ2 ⟨x1, v, x2, x3, x4, x5, x6⟩ => ⟨x1, v, x2, x3, x4, by rw [x5, p3], by rw [x6, p4]⟩)).one)
/-- the first word with its number -/
theorem td0 (h : PX c n k T q i σ τ) (h1 : σ 146 i = 1) (h2 : σ 147 i = 0) {m pl : Nat} (hm : σ 142 2 = m) (hm96 : m < 96) (hpl : pl < 80) (lo hi : Int) : ∃ σ1, Re_advance σ = some σ1 ∧ RUN (Re_takeNumber lo hi σ1) (Mo_told (pl : Int) ((tkT k).getD 0 1) lo hi τ) σ τ (fun σ' τ' => PX c n k T q (i + 2) σ' τ' ∧ ∃ v, lo ≤ v ∧ v ≤ hi ∧ σ' 142 2 = (m : Int) + 1 ∧ σ' 143 = up (σ 143) m v ∧ τ' 179 = up (τ 179) pl v) := by
  have hk := h.2.2.1.2.2.2
  have hl : ∀ k, k < 4 → 0 < (wids k).length := by decide
  obtain ⟨r, r1, r2⟩ := h.wrd (w := 0) (hl k hk)
  rcases r2 with ⟨r0, rt, -, -, hi'⟩ | ⟨r0, rt, r3⟩
  · obtain ⟨σ1, τ1, g1, g2, g3, g4, g5, g6, g7⟩ := h.nxw hi'
    refine ⟨σ1, g1, ?_⟩
    obtain ⟨r, σ2, τ2, x1, x2, x3, x4⟩ := ((numR g3 (by rw [g5]; exact hm) hm96 hpl lo hi).imp (Q' := fun σ' τ' => PX c n k T q (i + 2) σ' τ' ∧ ∃ v, lo ≤ v ∧ v ≤ hi ∧ σ' 142 2 = (m : Int) + 1 ∧ σ' 143 = up (σ 143) m v ∧ τ' 179 = up (τ 179) pl v) (fun σ2 τ2 ⟨x1, v, x2, x3, x4, x5, x6⟩ => ⟨x1, v, x2, x3, x4, by rw [x5, g6], by rw [x6, g7]⟩)).one
    refine ⟨r, σ2, τ2, x1, ?_, g4.trans x3, x4⟩
    unfold Mo_told Mo_need
    rw [if_pos rt, g2, b1_q, b2_q, if_neg (by decide)]
    exact x2
  · exact absurd ⟨h1, h2⟩ r3
end Rows
