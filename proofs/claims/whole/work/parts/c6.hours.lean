/-! text: a row of the hours, a row of the habits -/
def HQ (R : Nat) (σ τ : Sg) : Prop := σ 142 2 = 4 * (R : Int) ∧ (∀ j, j < 4 * R → σ 143 j = τ 179 j) ∧ ∀ r, r < R → (τ 179 (4 * r) = 0 ∨ τ 179 (4 * r) = 1) ∧ (0 ≤ τ 179 (4 * r + 1) ∧ τ 179 (4 * r + 1) ≤ 23) ∧ (1 ≤ τ 179 (4 * r + 2) ∧ τ 179 (4 * r + 2) ≤ 24) ∧ 0 ≤ τ 179 (4 * r + 3) ∧ τ 179 (4 * r + 3) ≤ 3
def BQ (R : Nat) (σ τ : Sg) : Prop := σ 142 2 = 2 * (R : Int) ∧ ∀ j, j < 2 * R → σ 143 j = τ 179 j ∧ 1 ≤ τ 179 j ∧ τ 179 j ≤ 999
section RowsH
variable {c : Nat → Int} {n T : Nat} {q : Nat → Nat} {i : Nat} {σ τ : Sg}
theorem dgR (h : PX c n 1 T q i σ τ) {m pl : Nat} (hm : σ 142 2 = m) (hm96 : m < 96) (hpl : pl < 80) : RUN (Re_takeDoing σ) (b1 (Mo_isIn (τ 172 18) 30 33) fun r11 => if r11 = 0 then b2 (Mo_bad 1 τ) fun r13 σ14 => some (r13, σ14) else ix ((pl : Nat) : Int) 80 (ll (su τ 179 (((pl : Nat) : Int)).toNat (wr ((τ 172 18) - 30))) fun σ15 => b1 (Mo_next0 σ15) fun σ17 => some (1, σ17))) σ τ (fun σ' τ' => PX c n 1 T q (i + 1) σ' τ' ∧ ∃ v, 0 ≤ v ∧ v ≤ 3 ∧ σ' 142 2 = (m : Int) + 1 ∧ σ' 143 = up (σ 143) m v ∧ τ' 179 = up (τ 179) pl v) := by
  have b4 := h.i4
  have a9 : σ 141 9 = i := h.2.1.2.1
  have hl : (wids 1).length = 7 := rfl
  have key : (σ 146 i = 1 ∧ 3 ≤ σ 147 i ∧ σ 147 i ≤ 6 ∧ i < T ∧ τ 172 18 = σ 147 i + 27) ∨ (¬ (σ 146 i = 1 ∧ 3 ≤ σ 147 i ∧ σ 147 i ≤ 6) ∧ ¬ (30 ≤ τ 172 18 ∧ τ 172 18 ≤ 33)) := by
    rw [h.2.2.2.2.1]
    unfold tkc
    rcases h.kd with ⟨y, -⟩ | ⟨y, yT, y1, y2⟩ | ⟨y, -⟩ | ⟨y, -⟩ | ⟨y, -⟩
    · rw [y, if_pos rfl]; omega
    · rw [y, if_neg (by decide), if_pos rfl]
      unfold tkW
      rw [if_neg (by omega)]
      obtain ⟨w, hw'⟩ := Int.eq_ofNat_of_zero_le y1
      have hw' : σ 147 i = (w : Int) := hw'
      rw [hw'] at y2 ⊢
      rw [Int.toNat_natCast]
      have t : ∀ w : Nat, w < 7 → (3 ≤ w ∧ w ≤ 6 ∧ (tkT 1).getD w 1 = (w : Int) + 27) ∨ (¬ (3 ≤ w ∧ w ≤ 6) ∧ ¬ (30 ≤ (tkT 1).getD w 1 ∧ (tkT 1).getD w 1 ≤ 33)) := by decide +kernel
      rcases t w (by omega) with z | z
      · left; exact ⟨rfl, by omega, by omega, yT, z.2.2⟩
      · right; exact ⟨by omega, z.2⟩
    · rw [y, if_neg (by decide), if_neg (by decide), if_pos rfl]; omega
    · rw [y, if_neg (by decide), if_neg (by decide), if_neg (by decide), if_pos rfl]
      right
      refine ⟨by omega, ?_⟩
      unfold sgF
      split <;> omega
    · rw [y, if_neg (by decide), if_neg (by decide), if_neg (by decide), if_neg (by decide)]; omega
  unfold RUN Re_takeDoing
  rw [a9, ix_q (by omega) (by omega), Int.toNat_natCast, isIn_q, b1_q]
  rcases key with ⟨z1, z2, z3, z4, z5⟩ | ⟨z1, z2⟩
  · obtain ⟨σ', τ', g1, g2, g3, g4, g5, g6, g7, g8⟩ := cel1 h z4 hm hm96 (pl := pl) (σ 147 i - 3)
    refine ⟨1, σ', τ', ?_, ?_, g5, .inr ⟨rfl, g4, σ 147 i - 3, by omega, by omega, g6, g7, g8⟩⟩
    · rw [if_pos z1, ix_q (by omega) (by omega), if_neg (by omega), ix_q (by omega) (by omega), if_neg (by omega), b1_q, i00, ix_q (by omega) (by omega), wr_q (by omega) (by omega), g1, b1_q, g2, b1_q]
    · rw [if_pos (show 30 ≤ τ 172 18 ∧ τ 172 18 ≤ 33 by omega), if_neg (by decide), ix_q (by omega) (by omega), Int.toNat_natCast, wr_q (by omega) (by omega), ll_q, show τ 172 18 - 30 = σ 147 i - 3 by omega, g3, b1_q]
  · obtain ⟨σ', τ', f1, f2, f3, f4⟩ := h.rfw 1
    have tC : (if σ 146 i = 1 then ix ((i : Nat) : Int) 401 (if σ 147 i < 3 then some 1 else ix ((i : Nat) : Int) 401 (if 6 < σ 147 i then some 1 else some 0)) else some 1) = some (1 : Int) := by
      by_cases y : σ 146 i = 1
      · rw [if_pos y, ix_q (by omega) (by omega)]
        by_cases x : σ 147 i < 3
        · rw [if_pos x]
        · rw [if_neg x, ix_q (by omega) (by omega), if_pos (by
            by_cases u : 6 < σ 147 i
            · exact u
            · exact absurd ⟨y, by omega, by omega⟩ z1)]
      · rw [if_neg y]
    refine ⟨0, σ', τ', ?_, ?_, f3, .inl ⟨rfl, f4⟩⟩
    · rw [tC, b1_q, if_neg (by decide), f1, b2_q]
    · rw [if_neg z2, if_pos rfl, f2, b2_q]
theorem hrQ {R : Nat} (h : PX c n 1 T q i σ τ) (h1 : σ 146 i = 1) (h2 : σ 147 i = 0) (hR : R < 16) (h15 : τ 172 15 = R) (hQ : HQ R σ τ) : RUN (b2 (Re_parseHours σ) fun r s => if r = 0 then some (0, s) else Re_takeSign 59 s) (Mo_aRow τ) σ τ (fun σ' τ' => (∃ i', i < i' ∧ PX c n 1 T q i' σ' τ') ∧ HQ (R + 1) σ' τ') := by
  have h12 : τ 172 12 = 1 := h.2.2.1.2.2.1
  obtain ⟨q1, q2, q3⟩ := hQ
  obtain ⟨σ1, a1, a2⟩ := td0 h h1 h2 (m := 4 * R) (pl := 4 * R) (by rw [q1]; omega) (by omega) (by omega) 0 1
  have row : RUN (Re_parseHours σ) (Mo_anHour τ) σ τ (fun σ' τ' => (∃ i', i < i' ∧ PX c n 1 T q i' σ' τ') ∧ HQ (R + 1) σ' τ') := by
    unfold Re_parseHours Mo_anHour
    rw [a1, b1_q, h15, wr_q (n := 4 * (R : Int)) (by omega) (by omega), ll_q, wr_q (n := 4 * (R : Int) + 1) (by omega) (by omega), wr_q (n := 4 * (R : Int) + 2) (by omega) (by omega)]
    rw [show (((4 * R : Nat)) : Int) = 4 * (R : Int) by omega, show (tkT 1).getD 0 1 = 7 from rfl] at a2
    refine RUN.seq a2 (fun σ3 τ3 ⟨p1, v0, p2, p3, p4, p5, p6⟩ => ?_)
    rw [b2_as]
    have b2' := tdR p1 (w := 1) (m := 4 * R + 1) (pl := 4 * R + 1) (by decide) (by rw [p4]; omega) (by omega) (by omega) 0 23
    rw [show (((4 * R + 1 : Nat)) : Int) = 4 * (R : Int) + 1 by omega, show (tkT 1).getD 1 1 = 8 from rfl] at b2'
    refine RUN.seq b2' (fun σ4 τ4 ⟨r1, v1, r2, r3, r4, r5, r6⟩ => ?_)
    rw [b2_as]
    have b3' := tdR r1 (w := 2) (m := 4 * R + 2) (pl := 4 * R + 2) (by decide) (by rw [r4]; omega) (by omega) (by omega) 1 24
    rw [show (((4 * R + 2 : Nat)) : Int) = 4 * (R : Int) + 2 by omega, show (tkT 1).getD 2 1 = 9 from rfl] at b3'
    refine RUN.seq b3' (fun σ5 τ5 ⟨s1, v2, s2, s3, s4, s5, s6⟩ => ?_)
    have d := dgR s1 (m := 4 * R + 3) (pl := 4 * R + 3) (by rw [s4]; omega) (by omega) (by omega)
    rw [show (((4 * R + 3 : Nat)) : Int) = 4 * (R : Int) + 3 by omega] at d
    refine (d.oneC).imp (fun σ6 τ6 ⟨t1, v3, t2, t3, t4, t5, t6⟩ => ⟨⟨_, by omega, t1⟩, by omega, fun j hj => ?_, fun r hr => ?_⟩)
    · rw [t5, t6, s5, s6, r5, r6, p5, p6]
      by_cases e3 : j = 4 * R + 3
      · rw [e3, up_a, up_a]
      rw [up_n e3, up_n e3]
      by_cases e2 : j = 4 * R + 2
      · rw [e2, up_a, up_a]
      rw [up_n e2, up_n e2]
      by_cases e1 : j = 4 * R + 1
      · rw [e1, up_a, up_a]
      rw [up_n e1, up_n e1]
      by_cases e0 : j = 4 * R
      · rw [e0, up_a, up_a]
      rw [up_n e0, up_n e0]
      exact q2 j (by omega)
    · rw [t6, s6, r6, p6]
      by_cases e : r = R
      · subst e
        rw [up_n (show 4 * r ≠ 4 * r + 3 by omega), up_n (show 4 * r ≠ 4 * r + 2 by omega), up_n (show 4 * r ≠ 4 * r + 1 by omega), up_a, up_n (show 4 * r + 1 ≠ 4 * r + 3 by omega), up_n (show 4 * r + 1 ≠ 4 * r + 2 by omega), up_a, up_n (show 4 * r + 2 ≠ 4 * r + 3 by omega), up_a, up_a]
        exact ⟨by omega, ⟨r2, r3⟩, ⟨s2, s3⟩, t2, t3⟩
      · have lo : ∀ j, j < 4 * R → up (up (up (up (τ 179) (4 * R) v0) (4 * R + 1) v1) (4 * R + 2) v2) (4 * R + 3) v3 j = τ 179 j := fun j hj => by rw [up_n (by omega), up_n (by omega), up_n (by omega), up_n (by omega)]
        rw [lo _ (by omega), lo _ (by omega), lo _ (by omega), lo _ (by omega)]
        exact q3 r (by omega)
  unfold Mo_aRow
  rw [if_pos h12]
  exact row.seq (fun σ6 τ6 ⟨⟨i', t1, t2⟩, t3⟩ => ((sgR t2).imp (fun σ7 τ7 ⟨u1, u2, u3, u4⟩ => ⟨⟨_, by omega, u1⟩, by unfold HQ at t3 ⊢; rw [u2, u3, u4]; exact t3⟩)).one)
theorem hbQ {R : Nat} (h : PX c n 3 T q i σ τ) (h1 : σ 146 i = 1) (h2 : σ 147 i = 0) (hR : R < 8) (h15 : τ 172 15 = R) (hQ : BQ R σ τ) : RUN (b2 (Re_parseHabit σ) fun r s => if r = 0 then some (0, s) else Re_takeSign 59 s) (Mo_aRow τ) σ τ (fun σ' τ' => (∃ i', i < i' ∧ PX c n 3 T q i' σ' τ') ∧ BQ (R + 1) σ' τ') := by
  have h12 : τ 172 12 = 3 := h.2.2.1.2.2.1
  obtain ⟨q1, q2⟩ := hQ
  obtain ⟨r, r1, r2⟩ := h.wrd (w := 0) (by decide)
  rcases r2 with ⟨r0, rt, -, -, hi'⟩ | ⟨r0, rt, r3⟩
  · obtain ⟨σ1, τ1, g1, g2, g3, g4, g5, g6, g7⟩ := h.nxw hi'
    have n15 : τ1 172 15 = R := by rw [g4.2.2.2.2 15 (by omega)]; exact h15
    have row : RUN (Re_parseHabit σ) (Mo_aHabit τ) σ τ (fun σ' τ' => (∃ i', i < i' ∧ PX c n 3 T q i' σ' τ') ∧ BQ (R + 1) σ' τ') := by
      have need15 : Mo_need 15 τ = some (1, τ1) := by
        unfold Mo_need
        rw [if_pos (show τ 172 18 = 15 from rt), g2, b1_q]
      have inner : RUN (b2 (Re_takeWord 1 σ1) fun r2 σ3 => if r2 = 0 then some (0, σ3) else b2 (Re_takeNumber 1 999 σ3) fun r5 σ6 => if r5 = 0 then some (0, σ6) else b2 (Re_takeWord 2 σ6) fun r8 σ9 => if r8 = 0 then some (0, σ9) else b2 (Re_takeNumber 1 999 σ9) fun r11 σ12 => if r11 = 0 then some (0, σ12) else some (1, σ12)) (b2 (Mo_told (wr (2 * (τ1 172 15))) 16 1 999 τ1) fun r4 σ5 => if r4 = 0 then some (0, σ5) else b2 (Mo_told (wr ((2 * (σ5 172 15)) + 1)) 17 1 999 σ5) fun r7 σ8 => if r7 = 0 then some (0, σ8) else some (1, σ8)) σ1 τ1 (fun σ' τ' => (∃ i', i < i' ∧ PX c n 3 T q i' σ' τ') ∧ BQ (R + 1) σ' τ') := by
        rw [b2_as, n15, wr_q (n := 2 * (R : Int)) (by omega) (by omega)]
        have t1 := tdR g3 (w := 1) (m := 2 * R) (pl := 2 * R) (by decide) (by rw [g5, q1]; omega) (by omega) (by omega) 1 999
        rw [show (((2 * R : Nat)) : Int) = 2 * (R : Int) by omega] at t1
        obtain ⟨rr, σ3, τ3, x1, x2, x3, x4⟩ := t1
        have m15 : τ3 172 15 = R := by rw [x3.2.2.2.2 15 (by omega)]; exact n15
        refine RUN.seq (Q := fun σ' τ' => (PX c n 3 T q (i + 3) σ' τ' ∧ ∃ v, 1 ≤ v ∧ v ≤ 999 ∧ σ' 142 2 = 2 * (R : Int) + 1 ∧ σ' 143 = up (σ1 143) (2 * R) v ∧ τ' 179 = up (τ1 179) (2 * R) v) ∧ τ' 172 15 = R) (show RUN _ (Mo_told (2 * (R : Int)) 16 1 999 τ1) σ1 τ1 _ from ⟨rr, σ3, τ3, x1, x2, x3, x4.imp id (fun ⟨e1, e2⟩ => ⟨e1, by rw [show i + 1 + 2 = i + 3 by omega] at e2; exact e2, m15⟩)⟩) (fun σ4 τ4 ⟨⟨p1, v0, p2, p3, p4, p5, p6⟩, p7⟩ => ?_)
        rw [b2_as, p7, wr_q (n := 2 * (R : Int) + 1) (by omega) (by omega)]
        have t2 := tdR p1 (w := 2) (m := 2 * R + 1) (pl := 2 * R + 1) (by decide) (by rw [p4]; omega) (by omega) (by omega) 1 999
        rw [show (((2 * R + 1 : Nat)) : Int) = 2 * (R : Int) + 1 by omega] at t2
        refine ((RUN.oneC (show RUN _ (Mo_told (2 * (R : Int) + 1) 17 1 999 τ4) σ4 τ4 _ from t2)).one).imp (fun σ5 τ5 ⟨s1, v1, s2, s3, s4, s5, s6⟩ => ⟨⟨_, by omega, s1⟩, by omega, fun j hj => ?_⟩)
        rw [s5, s6, p5, p6, g6, g7]
        by_cases e1 : j = 2 * R + 1
        · rw [e1, up_a, up_a]; exact ⟨rfl, s2, s3⟩
        rw [up_n e1, up_n e1]
        by_cases e0 : j = 2 * R
        · rw [e0, up_a, up_a]; exact ⟨rfl, p2, p3⟩
        rw [up_n e0, up_n e0]
        exact q2 j (by omega)
      obtain ⟨rr, σ3, τ3, x1, x2, x3, x4⟩ := inner
      refine ⟨rr, σ3, τ3, ?_, ?_, g4.trans x3, x4⟩
      · unfold Re_parseHabit
        rw [g1, b1_q]; exact x1
      · unfold Mo_aHabit
        rw [need15, b2_q, if_neg (by decide)]; exact x2
    unfold Mo_aRow
    rw [if_neg (by omega), if_neg (by omega)]
    exact row.seq (fun σ6 τ6 ⟨⟨i', t1, t2⟩, t3⟩ => ((sgR t2).imp (fun σ7 τ7 ⟨u1, u2, u3, u4⟩ => ⟨⟨_, by omega, u1⟩, by unfold BQ at t3 ⊢; rw [u2, u3, u4]; exact t3⟩)).one)
  · exact absurd ⟨h1, h2⟩ r3
end RowsH
