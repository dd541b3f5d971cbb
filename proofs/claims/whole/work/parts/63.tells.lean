/-! what the law tells -/
section Tells
/-- the sum, and the truth, of line i -/
def valF (w F : Nat → Int) (i : Nat) : Int := (evN (fun j => w (1397 + 2 * j)) (fun j => w (1398 + 2 * j)) F (w (1333 + i)).toNat (w (1349 + i) - w (1333 + i)).toNat []).headD 0
def truF (w F : Nat → Int) (i : Nat) : Int := (evN (fun j => w (1397 + 2 * j)) (fun j => w (1398 + 2 * j)) F (w (1349 + i)).toNat (w (1365 + i) - w (1349 + i)).toNat []).headD 0
def tlF (w F : Nat → Int) (word wo : Int) : Nat → Nat → Int
  | _, 0 => wo
  | i, n + 1 => if w (1381 + i) = word + 20 ∧ (w (1365 + i) = w (1349 + i) ∨ truF w F i = 1) then valF w F i else tlF w F word wo (i + 1) n
theorem typ_one {b : Bool} {s : List Int} (h : typ [b] s) : ∃ x, s = [x] ∧ (b = true → x = 0 ∨ x = 1) := by
  obtain ⟨x, r, rfl, h1, h2⟩ := typ_cons h
  match r, h2 with
  | [], _ => exact ⟨x, rfl, h1⟩
variable {σ τ : Sg}
theorem comes1 {a n : Nat} {b : Bool} {τ' : Sg} (hok : okSt (fun j => τ 173 (1397 + 2 * j)) (fun j => τ 173 (1398 + 2 * j)) a n) (hty : tyN (fun j => τ 173 (1397 + 2 * j)) a n [] = some [b]) (he : ∀ k, k ≠ 181 → τ' k = τ k) :
    ∃ τ'', Mo_comesTo 0 (a : Int) ((a : Int) + n) τ' = some ((evN (fun j => τ 173 (1397 + 2 * j)) (fun j => τ 173 (1398 + 2 * j)) (τ 182) a n []).headD 0, τ'') ∧ (b = true → (evN (fun j => τ 173 (1397 + 2 * j)) (fun j => τ 173 (1398 + 2 * j)) (τ 182) a n []).headD 0 = 0 ∨ (evN (fun j => τ 173 (1397 + 2 * j)) (fun j => τ 173 (1398 + 2 * j)) (τ 182) a n []).headD 0 = 1) ∧ ∀ k, k ≠ 181 → τ'' k = τ k := by
  obtain ⟨τ2, g1, g2, g3, g4⟩ := comesM (τ := τ) n a [] [] [b] τ' hok trivial trivial (by simp) hty he
  obtain ⟨x, hx, hb⟩ := typ_one g3
  rw [hx] at g2 ⊢
  refine ⟨τ2, ?_, hb, g4⟩
  unfold Mo_comesTo
  have : ((([] : List Int).length : Nat) : Int) = 0 := rfl
  rw [this] at g1
  have g2' : τ2 181 0 = x := g2.1
  rw [g1, g2']; rfl
theorem held_q (x a b : Int) : Mo_held x a b = some (max a (min b x)) := by
  unfold Mo_held; rw [lesser_q, b1_q, greater_q, b1_q]
theorem okSt_of {s c d : Nat → Int} (h : LR s c d (τ 173)) {a n : Nat} (hb : ((a + n : Nat) : Int) ≤ s 3) : okSt (fun j => τ 173 (1397 + 2 * j)) (fun j => τ 173 (1398 + 2 * j)) a n := by
  obtain ⟨l1, l2, l3, l4, l5, l6⟩ := h
  refine ⟨by omega, fun j h1 h2 h3 => ?_⟩
  have := l6 j (by omega)
  unfold stepR at this
  dsimp only at h3 ⊢
  omega
theorem saysM {s c d : Nat → Int} (h : LR s c d (τ 173)) {word wo lo hi : Int} : ∃ τ', Mo_says (word + 20) wo lo hi τ = some (max lo (min hi (tlF (τ 173) (τ 182) word wo 0 (τ 173 550).toNat)), τ') ∧ ∀ k, k ≠ 181 → τ' k = τ k := by
  have h0 := h
  obtain ⟨l1, l2, l3, l4, l5, l6⟩ := h
  have key : ∀ n i : Nat, i + n = (τ 173 550).toNat → ∀ τ1 : Sg, (∀ k, k ≠ 181 → τ1 k = τ k) → ∃ τ', Mo_says_3_w (word + 20) lo hi wo (i : Int) τ1 = some (max lo (min hi (tlF (τ 173) (τ 182) word wo i n)), τ') ∧ ∀ k, k ≠ 181 → τ' k = τ k := by
    intro n
    induction n with
    | zero =>
      intro i hi' τ1 he
      refine ⟨τ1, wl_end ?_, he⟩
      show Mo_says_3_b _ _ _ _ (i : Int) τ1 = _
      unfold Mo_says_3_b
      rw [he 173 (by decide), if_neg (by omega), held_q, b1_q]; rfl
    | succ n ih =>
      intro i hi' τ1 he
      obtain ⟨q1, q2, q3, q4, q5, q6, q7⟩ := l5 i (by omega)
      have e1 : (1381 + (i : Int)).toNat = 1381 + i := by omega
      have e2 : (1365 + (i : Int)).toNat = 1365 + i := by omega
      have e3 : (1349 + (i : Int)).toNat = 1349 + i := by omega
      have e4 : (1333 + (i : Int)).toNat = 1333 + i := by omega
      have ei : (i : Int) + 1 = ((i + 1 : Nat) : Int) := by omega
      unfold tlF
      by_cases cw : τ 173 (1381 + i) = word + 20
      · -- the sum of the line, over any memory that differs in the pile alone
        have sum : ∀ τ2 : Sg, (∀ k, k ≠ 181 → τ2 k = τ k) → ∃ τ3, Mo_comesTo 0 (τ 173 (1333 + i)) (τ 173 (1349 + i)) τ2 = some (valF (τ 173) (τ 182) i, τ3) ∧ ∀ k, k ≠ 181 → τ3 k = τ k := by
          intro τ2 he2
          obtain ⟨τ3, g1, -, g3⟩ := comes1 (τ := τ) (a := (τ 173 (1333 + i)).toNat) (n := (τ 173 (1349 + i) - τ 173 (1333 + i)).toNat) (b := false) (okSt_of h0 (by omega)) q6 he2
          refine ⟨τ3, ?_, g3⟩
          rw [show (((τ 173 (1333 + i)).toNat : Nat) : Int) = τ 173 (1333 + i) by omega, show τ 173 (1333 + i) + (((τ 173 (1349 + i) - τ 173 (1333 + i)).toNat : Nat) : Int) = τ 173 (1349 + i) by omega] at g1
          exact g1
        by_cases ce : τ 173 (1365 + i) = τ 173 (1349 + i)
        · obtain ⟨τ3, g1, g2⟩ := sum τ1 he
          rw [if_pos ⟨cw, Or.inl ce⟩]
          refine ⟨τ3, wl_end ?_, g2⟩
          show Mo_says_3_b _ _ _ _ (i : Int) τ1 = _
          unfold Mo_says_3_b Mo_isSo
          rw [he 173 (by decide), if_pos (by omega), ix_q (by omega) (by omega), e1, if_pos cw, ix_q (by omega) (by omega), ix_q (by omega) (by omega), e2, e3, if_pos ce, b2_q, i10, ix_q (by omega) (by omega), ix_q (by omega) (by omega), he 173 (by decide), e4, g1, b2_q, held_q, b1_q]
        · have hlt : τ 173 (1349 + i) < τ 173 (1365 + i) := by omega
          obtain ⟨τ2, g1, g2, g3⟩ := comes1 (τ := τ) (a := (τ 173 (1349 + i)).toNat) (n := (τ 173 (1365 + i) - τ 173 (1349 + i)).toNat) (b := true) (τ' := τ1) (okSt_of h0 (by omega)) (q7 hlt) he
          rw [show (((τ 173 (1349 + i)).toNat : Nat) : Int) = τ 173 (1349 + i) by omega, show τ 173 (1349 + i) + (((τ 173 (1365 + i) - τ 173 (1349 + i)).toNat : Nat) : Int) = τ 173 (1365 + i) by omega] at g1
          have g2' : truF (τ 173) (τ 182) i = 0 ∨ truF (τ 173) (τ 182) i = 1 := g2 rfl
          have g1' : Mo_comesTo 0 (τ 173 (1349 + i)) (τ 173 (1365 + i)) τ1 = some (truF (τ 173) (τ 182) i, τ2) := g1
          by_cases ct : truF (τ 173) (τ 182) i = 1
          · obtain ⟨τ3, k1, k2⟩ := sum τ2 g3
            rw [if_pos ⟨cw, Or.inr ct⟩]
            refine ⟨τ3, wl_end ?_, k2⟩
            show Mo_says_3_b _ _ _ _ (i : Int) τ1 = _
            unfold Mo_says_3_b Mo_isSo
            rw [he 173 (by decide), if_pos (by omega), ix_q (by omega) (by omega), e1, if_pos cw, ix_q (by omega) (by omega), ix_q (by omega) (by omega), e2, e3, if_neg ce, ix_q (by omega) (by omega), ix_q (by omega) (by omega), g1', b2_q, if_pos ct, b2_q, i10, ix_q (by omega) (by omega), ix_q (by omega) (by omega), g3 173 (by decide), e4, k1, b2_q, held_q, b1_q]
          · obtain ⟨τ4, k1, k2⟩ := ih (i + 1) (by omega) τ2 g3
            rw [if_neg (fun z => z.2.elim ce ct)]
            refine ⟨τ4, ?_, k2⟩
            rw [← k1, ← ei]
            refine wl_go ?_
            show Mo_says_3_b _ _ _ _ (i : Int) τ1 = _
            unfold Mo_says_3_b Mo_isSo
            rw [he 173 (by decide), if_pos (by omega), ix_q (by omega) (by omega), e1, if_pos cw, ix_q (by omega) (by omega), ix_q (by omega) (by omega), e2, e3, if_neg ce, ix_q (by omega) (by omega), ix_q (by omega) (by omega), g1', b2_q, if_neg ct, b2_q, i00, ll_q, wr_q (by omega) (by omega)]
      · obtain ⟨τ4, k1, k2⟩ := ih (i + 1) (by omega) τ1 he
        rw [if_neg (fun z => cw z.1)]
        refine ⟨τ4, ?_, k2⟩
        rw [← k1, ← ei]
        refine wl_go ?_
        show Mo_says_3_b _ _ _ _ (i : Int) τ1 = _
        unfold Mo_says_3_b
        rw [he 173 (by decide), if_pos (by omega), ix_q (by omega) (by omega), e1, if_neg cw, ll_q, wr_q (by omega) (by omega)]
  unfold Mo_says
  have := key (τ 173 550).toNat 0 (by omega) τ (fun _ _ => rfl)
  exact this
theorem reck1 {w F : Nat → Int} (h : LR (σ 17) (σ 18) (σ 19) w) (hF : ∀ j, j < 10 → σ 150 j = F (j + 1)) {a n : Nat} {b : Bool} (hb : ((a + n : Nat) : Int) ≤ σ 17 3) (hty : tyN (fun j => w (1397 + 2 * j)) a n [] = some [b]) {σ' : Sg} (hJ : sameJ σ σ') :
    ∃ σ'', Ju_reckon 17 (a : Int) ((a : Int) + n) σ' = some ((evN (fun j => w (1397 + 2 * j)) (fun j => w (1398 + 2 * j)) F a n []).headD 0, σ'') ∧ (b = true → (evN (fun j => w (1397 + 2 * j)) (fun j => w (1398 + 2 * j)) F a n []).headD 0 = 0 ∨ (evN (fun j => w (1397 + 2 * j)) (fun j => w (1398 + 2 * j)) F a n []).headD 0 = 1) ∧ sameJ σ σ'' := by
  obtain ⟨l1, l2, l3, l4, l5, l6⟩ := h
  obtain ⟨σ2, g1, g2, g3⟩ := reckC (σ := σ) (k := fun j => w (1397 + 2 * j)) (v := fun j => w (1398 + 2 * j)) hF n a [] [] [b] (su σ' 149 2 0) (by omega) (fun j h1 h2 => l6 j (by omega)) trivial (by rw [su_s, up_a]; rfl) trivial (by simp) hty hJ.hei
  obtain ⟨x, hx, hxb⟩ := typ_one g2
  rw [hx] at g1 ⊢
  refine ⟨σ2, ?_, hxb, g3⟩
  unfold Ju_reckon
  have e17 : su σ' 149 2 0 17 3 = σ 17 3 := by rw [su_c (by decide), hJ.1 17 (by decide) (by decide)]
  rw [ll_q, min_q, b1_q, max_q, b1_q, e17, show min ((a : Int) + n) (σ 17 3) = (a : Int) + n by omega, show max 0 (a : Int) = (a : Int) by omega]
  exact g1
theorem tellsC {w F : Nat → Int} (h : LR (σ 17) (σ 18) (σ 19) w) (hF : ∀ j, j < 10 → σ 150 j = F (j + 1)) {word wo : Int} (hw : 0 ≤ word ∧ word ≤ 4) (hu : Ju_untold word σ = some wo) :
    ∃ σ', Ju_tells 17 word σ = some (max (mLo word.toNat) (min (mHi word.toNat) (tlF w F word wo 0 (w 550).toNat)), σ') ∧ sameJ σ σ' := by
  have h0 := h
  obtain ⟨l1, l2, l3, l4, l5, l6⟩ := h
  have hln : ln (17 + 1) = 64 := by decide +kernel
  have fin : ∀ (x : Int) (σ2 : Sg), (ix word 5 (ix word 5 (b1 (Jm_min (mHi (word).toNat) x) fun r15 => b1 (Jm_max (mLo (word).toNat) r15) fun r16 => (some (.inr (r16, σ2)) : Option ((Int × Sg) ⊕ (Int × Sg)))))) = some (.inr (max (mLo word.toNat) (min (mHi word.toNat) x), σ2)) := by
    intro x σ2
    rw [ix_q (by omega) (by omega), ix_q (by omega) (by omega), min_q, b1_q, max_q, b1_q]
  have key : ∀ n i : Nat, i + n = (w 550).toNat → ∀ σ1 : Sg, sameJ σ σ1 → ∃ σ', Ju_tells_9_w 17 word wo (i : Int) σ1 = some (max (mLo word.toNat) (min (mHi word.toNat) (tlF w F word wo i n)), σ') ∧ sameJ σ σ' := by
    intro n
    induction n with
    | zero =>
      intro i hi' σ1 hJ
      refine ⟨σ1, wl_end ?_, hJ⟩
      show Ju_tells_9_b _ _ _ (i : Int) σ1 = _
      unfold Ju_tells_9_b
      rw [hJ.1 17 (by decide) (by decide), l1, if_neg (by omega), fin]; rfl
    | succ n ih =>
      intro i hi' σ1 hJ
      obtain ⟨⟨q1, q1', q1''⟩, q2, q3, q4, q5, q6, q7⟩ := l5 i (by omega)
      obtain ⟨g1, g2⟩ := l3 (by omega)
      have cells : ∀ σ2 : Sg, sameJ σ σ2 → Sh_cell 17 (i : Int) 0 σ2 = some (w (1381 + i) - 20) ∧ Sh_cell 17 (i : Int) 1 σ2 = some (w (1333 + i)) ∧ Sh_cell 17 (i : Int) 2 σ2 = some (w (1349 + i)) ∧ Sh_cell 17 (i : Int) 3 σ2 = some (w (1365 + i)) := by
        intro σ2 hJ2
        have f1 : σ2 17 1 = ((4 : Nat) : Int) := by rw [hJ2.1 17 (by decide) (by decide)]; exact g1
        have f2 : σ2 17 2 = ((4 * (w 550).toNat : Nat) : Int) := by rw [hJ2.1 17 (by decide) (by decide)]; omega
        have f3 : σ2 18 = σ 18 := hJ2.1 18 (by decide) (by decide)
        have c0 := cell_q (i := i) (k := 0) (W := 4) f1 f2 (by omega) (by omega) (by omega)
        have c1 := cell_q (i := i) (k := 1) (W := 4) f1 f2 (by omega) (by omega) (by omega)
        have c2 := cell_q (i := i) (k := 2) (W := 4) f1 f2 (by omega) (by omega) (by omega)
        have c3 := cell_q (i := i) (k := 3) (W := 4) f1 f2 (by omega) (by omega) (by omega)
        simp only [Nat.reduceAdd, f3] at c0 c1 c2 c3
        rw [show i * 4 + 0 = 4 * i by omega] at c0
        rw [show i * 4 + 1 = 4 * i + 1 by omega, q2] at c1
        rw [show i * 4 + 2 = 4 * i + 2 by omega, q3] at c2
        rw [show i * 4 + 3 = 4 * i + 3 by omega, q4] at c3
        refine ⟨?_, c1, c2, c3⟩
        rw [show w (1381 + i) - 20 = σ 18 (4 * i) by omega]; exact c0
      obtain ⟨c0, c1, c2, c3⟩ := cells σ1 hJ
      have ei : (i : Int) + 1 = ((i + 1 : Nat) : Int) := by omega
      have e17 : σ1 17 0 = w 550 := by rw [hJ.1 17 (by decide) (by decide), l1]
      unfold tlF
      by_cases cw : w (1381 + i) = word + 20
      · have sum : ∀ σ2 : Sg, sameJ σ σ2 → ∃ σ3, Ju_reckon 17 (w (1333 + i)) (w (1349 + i)) σ2 = some (valF w F i, σ3) ∧ sameJ σ σ3 := by
          intro σ2 hJ2
          obtain ⟨σ3, k1, -, k3⟩ := reck1 (F := F) h0 hF (a := (w (1333 + i)).toNat) (n := (w (1349 + i) - w (1333 + i)).toNat) (b := false) (by omega) q6 hJ2
          refine ⟨σ3, ?_, k3⟩
          rw [show (((w (1333 + i)).toNat : Nat) : Int) = w (1333 + i) by omega, show w (1333 + i) + (((w (1349 + i) - w (1333 + i)).toNat : Nat) : Int) = w (1349 + i) by omega] at k1
          exact k1
        by_cases ce : w (1365 + i) = w (1349 + i)
        · obtain ⟨σ3, k1, k2⟩ := sum σ1 hJ
          rw [if_pos ⟨cw, Or.inl ce⟩]
          refine ⟨σ3, wl_end ?_, k2⟩
          show Ju_tells_9_b _ _ _ (i : Int) σ1 = _
          unfold Ju_tells_9_b
          rw [e17, if_pos (by omega), c2, b1_q, c3, b1_q, c0, b1_q, if_pos (by omega), if_pos ce.symm, c1, b1_q, k1, b2_q, fin]
        · have hlt : w (1349 + i) < w (1365 + i) := by omega
          obtain ⟨σ2, k1, k2, k3⟩ := reck1 (F := F) h0 hF (a := (w (1349 + i)).toNat) (n := (w (1365 + i) - w (1349 + i)).toNat) (b := true) (by omega) (q7 hlt) hJ
          rw [show (((w (1349 + i)).toNat : Nat) : Int) = w (1349 + i) by omega, show w (1349 + i) + (((w (1365 + i) - w (1349 + i)).toNat : Nat) : Int) = w (1365 + i) by omega] at k1
          have k2' : truF w F i = 0 ∨ truF w F i = 1 := k2 rfl
          have k1' : Ju_reckon 17 (w (1349 + i)) (w (1365 + i)) σ1 = some (truF w F i, σ2) := k1
          by_cases ct : truF w F i = 1
          · obtain ⟨σ3, m1, m2⟩ := sum σ2 k3
            obtain ⟨-, d1, -, -⟩ := cells σ2 k3
            rw [if_pos ⟨cw, Or.inr ct⟩]
            refine ⟨σ3, wl_end ?_, m2⟩
            show Ju_tells_9_b _ _ _ (i : Int) σ1 = _
            unfold Ju_tells_9_b
            rw [e17, if_pos (by omega), c2, b1_q, c3, b1_q, c0, b1_q, if_pos (by omega), if_neg (fun z => ce z.symm), k1', b2_q, if_neg (by omega), d1, b1_q, m1, b2_q, fin]
          · obtain ⟨σ4, m1, m2⟩ := ih (i + 1) (by omega) σ2 k3
            rw [if_neg (fun z => z.2.elim ce ct)]
            refine ⟨σ4, ?_, m2⟩
            rw [← m1, ← ei]
            refine wl_go ?_
            show Ju_tells_9_b _ _ _ (i : Int) σ1 = _
            unfold Ju_tells_9_b
            rw [e17, if_pos (by omega), c2, b1_q, c3, b1_q, c0, b1_q, if_pos (by omega), if_neg (fun z => ce z.symm), k1', b2_q, if_pos (by omega), ll_q, wr_q (by omega) (by omega)]
      · obtain ⟨σ4, m1, m2⟩ := ih (i + 1) (by omega) σ1 hJ
        rw [if_neg (fun z => cw z.1)]
        refine ⟨σ4, ?_, m2⟩
        rw [← m1, ← ei]
        refine wl_go ?_
        show Ju_tells_9_b _ _ _ (i : Int) σ1 = _
        unfold Ju_tells_9_b
        rw [e17, if_pos (by omega), c2, b1_q, c3, b1_q, c0, b1_q, if_neg (by omega), ll_q, wr_q (by omega) (by omega)]
  unfold Ju_tells
  rw [hu, b1_q]
  exact key (w 550).toNat 0 (by omega) σ ⟨fun _ _ _ => rfl, fun _ _ => rfl⟩
end Tells
