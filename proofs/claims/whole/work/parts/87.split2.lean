/-! split: the cuts -/
def abF (x : Int) : Int := if x < 0 then -x else x
def spF (L : Nat → Int) (a b : Nat) : Int := smf (fun j => abF (L j - L ((a + b - 1) / 2))) a (b - a)
def coF (L : Nat → Int) (g c : Nat) : Int := spF L 0 c + spF L c g
def okL (L : Nat → Int) (g : Nat) : Prop := (∀ j, j < g → 1 ≤ L j ∧ L j ≤ 99999) ∧ ∀ x y, x < y → y < g → L x ≤ L y
section Split2
theorem abF_in {x c : Int} (h : -c ≤ x ∧ x ≤ c) : 0 ≤ abF x ∧ abF x ≤ c := by unfold abF; split <;> omega
theorem spF_in {L : Nat → Int} {g a b : Nat} (hL : okL L g) (hb : b ≤ g) : 0 ≤ spF L a b ∧ spF L a b ≤ ((b - a : Nat) : Int) * 99999 := by
  unfold spF
  refine smf_le _ _ (fun i h1 h2 => abF_in ?_)
  have q1 := hL.1 i (by omega)
  have q2 := hL.1 ((a + b - 1) / 2) (by omega)
  omega
theorem coF_in {L : Nat → Int} {g c : Nat} (hg : g ≤ 60) (hL : okL L g) (hc : c ≤ g) : 0 ≤ coF L g c ∧ coF L g c ≤ 20000000 := by
  have h1 := spF_in (a := 0) (b := c) hL hc
  have h2 := spF_in (a := c) (b := g) hL (Nat.le_refl _)
  unfold coF; omega
/-- the class: one part -/
theorem spC {σ : Sg} {L : Nat → Int} {g : Nat} (hg : g ≤ 60) (hL : okL L g) (hσ : ∀ j, j < g → σ 169 j = L j) {a b : Nat} (hab : a ≤ b) (hb : b ≤ g) : Gl_spread (a : Int) (b : Int) σ = some (spF L a b) := by
  have key : ∀ (m k : Nat) (acc : Int), k + m = b → a ≤ k → (0 ≤ acc ∧ acc ≤ (k : Int) * 99999) → Gl_spread_16_w (b : Int) (((a + b - 1) / 2 : Nat) : Int) σ acc (k : Int) = some (acc + smf (fun j => abF (L j - L ((a + b - 1) / 2))) k m) := by
    intro m
    induction m with
    | zero =>
      intro k acc hk hak hacc
      refine wl_end ?_
      show Gl_spread_16_b (b : Int) _ σ acc (k : Int) = _
      unfold Gl_spread_16_b
      rw [if_neg (by omega)]
      unfold smf
      rw [Int.add_zero]
    | succ m ih =>
      intro k acc hk hak hacc
      have q1 := hL.1 k (by omega)
      have q2 := hL.1 ((a + b - 1) / 2) (by omega)
      have q3 := abF_in (x := L k - L ((a + b - 1) / 2)) (c := 99999) (by omega)
      have ih' := ih (k + 1) (acc + abF (L k - L ((a + b - 1) / 2))) (by omega) (by omega) (by omega)
      have e : acc + smf (fun j => abF (L j - L ((a + b - 1) / 2))) k (m + 1) = acc + abF (L k - L ((a + b - 1) / 2)) + smf (fun j => abF (L j - L ((a + b - 1) / 2))) (k + 1) m := by
        rw [Int.add_assoc]; rfl
      rw [e, ← ih']
      refine wl_go ?_
      show Gl_spread_16_b (b : Int) _ σ acc (k : Int) = _
      unfold Gl_spread_16_b
      have ea : Jm_abs (L k - L ((a + b - 1) / 2)) = some (abF (L k - L ((a + b - 1) / 2))) := by
        unfold Jm_abs abF
        by_cases z : L k - L ((a + b - 1) / 2) < 0
        · rw [if_pos z, if_pos z, wr_q (by omega) (by omega)]
        · rw [if_neg z, if_neg z]
      rw [if_pos (by omega), ix_q (by omega) (by omega), ix_q (by omega) (by omega), Int.toNat_natCast, Int.toNat_natCast, hσ k (by omega), hσ _ (by omega), wr_q (n := L k - L ((a + b - 1) / 2)) (by omega) (by omega), ea, b1_q, wr_q (by omega) (by omega), wr_q (by omega) (by omega), ll_q, ll_q]
      rfl
  unfold Gl_spread
  rw [wr_q (n := (b : Int) - a - 1) (by omega) (by omega)]
  rcases Nat.lt_or_ge a b with z | z
  · rw [show (b : Int) - a - 1 = ((b - a - 1 : Nat) : Int) by omega, show (2 : Int) = ((2 : Nat) : Int) from rfl, ← Int.ofNat_tdiv, show (a : Int) + ((b - a - 1) / 2 : Nat) = (((a + b - 1) / 2 : Nat) : Int) by omega, wr_q (by omega) (by omega), ll_q, key (b - a) a 0 (by omega) (by omega) (by omega), Int.zero_add]
    rfl
  · have e : a = b := by omega
    subst e
    rw [ll_q]
    refine wl_end ?_
    show Gl_spread_16_b (a : Int) _ σ 0 (a : Int) = _
    unfold Gl_spread_16_b spF
    rw [if_neg (by omega), show a - a = 0 by omega]
    rfl
/-- the reference: one part -/
theorem spM {τ : Sg} {g : Nat} (hg : g ≤ 60) (hL : okL (τ 186) g) {a b : Nat} (hab : a ≤ b) (hb : b ≤ g) : Mo_farFromMiddle (a : Int) (b : Int) τ = some (spF (τ 186) a b) := by
  have key : ∀ (m k : Nat) (acc : Int), k + m = b → a ≤ k → (0 ≤ acc ∧ acc ≤ (k : Int) * 99999) → Mo_farFromMiddle_5_w (b : Int) (a : Int) τ acc (k : Int) = some (acc + smf (fun j => abF (τ 186 j - τ 186 ((a + b - 1) / 2))) k m) := by
    intro m
    induction m with
    | zero =>
      intro k acc hk hak hacc
      refine wl_end ?_
      show Mo_farFromMiddle_5_b (b : Int) (a : Int) τ acc (k : Int) = _
      unfold Mo_farFromMiddle_5_b
      rw [if_neg (by omega)]
      unfold smf
      rw [Int.add_zero]
    | succ m ih =>
      intro k acc hk hak hacc
      have q1 := hL.1 k (by omega)
      have q2 := hL.1 ((a + b - 1) / 2) (by omega)
      have q3 := abF_in (x := τ 186 k - τ 186 ((a + b - 1) / 2)) (c := 99999) (by omega)
      have ih' := ih (k + 1) (acc + abF (τ 186 k - τ 186 ((a + b - 1) / 2))) (by omega) (by omega) (by omega)
      have e : acc + smf (fun j => abF (τ 186 j - τ 186 ((a + b - 1) / 2))) k (m + 1) = acc + abF (τ 186 k - τ 186 ((a + b - 1) / 2)) + smf (fun j => abF (τ 186 j - τ 186 ((a + b - 1) / 2))) (k + 1) m := by
        rw [Int.add_assoc]; rfl
      rw [e, ← ih']
      refine wl_go ?_
      show Mo_farFromMiddle_5_b (b : Int) (a : Int) τ acc (k : Int) = _
      unfold Mo_farFromMiddle_5_b
      have ea : Mo_size (τ 186 k - τ 186 ((a + b - 1) / 2)) = some (abF (τ 186 k - τ 186 ((a + b - 1) / 2))) := by
        unfold Mo_size abF
        by_cases z : τ 186 k - τ 186 ((a + b - 1) / 2) < 0
        · rw [if_pos z, if_pos z, wr_q (by omega) (by omega)]
        · rw [if_neg z, if_neg z]
      have ed : Int.tdiv (wr ((a : Int) + b - 1)) 2 = (((a + b - 1) / 2 : Nat) : Int) := by
        rw [wr_q (by omega) (by omega), show (a : Int) + b - 1 = ((a + b - 1 : Nat) : Int) by omega, show (2 : Int) = ((2 : Nat) : Int) from rfl, ← Int.ofNat_tdiv]
      rw [if_pos (by omega), ix_q (by omega) (by omega), ed, ix_q (by omega) (by omega), Int.toNat_natCast, Int.toNat_natCast, wr_q (n := τ 186 k - τ 186 ((a + b - 1) / 2)) (by omega) (by omega), ea, b1_q, wr_q (by omega) (by omega), wr_q (by omega) (by omega), ll_q, ll_q]
      rfl
  unfold Mo_farFromMiddle
  rw [key (b - a) a 0 (by omega) (by omega) (by omega), Int.zero_add]
  rfl
/-- how many lie below a number -/
def isE (L : Nat → Int) (g : Nat) (num : Int) (b : Nat) : Prop := b ≤ g ∧ (∀ j, j < b → L j < num) ∧ (b < g → num ≤ L b)
theorem isE_u {L : Nat → Int} {g b b' : Nat} {num : Int} (h : isE L g num b) (h' : isE L g num b') : b = b' := by
  rcases Nat.lt_or_ge b b' with z | z
  · have h1 := h'.2.1 b z
    have h2 := h.2.2 (by have := h'.1; omega)
    omega
  · rcases Nat.lt_or_ge b' b with y | y
    · have h1 := h.2.1 b' y
      have h2 := h'.2.2 (by have := h.1; omega)
      omega
    · omega
/-- the class: what a cut costs -/
theorem coC {σ : Sg} {L : Nat → Int} {g : Nat} (hg : g ≤ 60) (hL : okL L g) (hσ : ∀ j, j < g → σ 169 j = L j) (h1 : σ 166 1 = g) (num : Int) : ∃ b, isE L g num b ∧ Gl_costOfCut num σ = some (coF L g b) := by
  have key : ∀ (m k : Nat), k + m = g → (∀ j, j < k → L j < num) → ∃ b, isE L g num b ∧ Gl_costOfCut_2_w σ num (k : Int) = some (coF L g b) := by
    have fin : ∀ k : Nat, isE L g num k → Gl_costOfCut_2_w σ num (k : Int) = some (coF L g k) := by
      intro k hE
      have hk := hE.1
      have c1 := spC hg hL hσ (a := 0) (b := k) (by omega) hk
      have c2 := spC hg hL hσ (a := k) (b := g) hk (Nat.le_refl _)
      have i1 := coF_in hg hL hk
      have t : (if (k : Int) < (g : Int) then ix (k : Int) 60 (if σ 169 (k : Int).toNat < num then some 0 else some 1) else some 1) = some (1 : Int) := by
        rcases Nat.lt_or_ge k g with z | z
        · have := hE.2.2 z
          rw [if_pos (by omega), ix_q (by omega) (by omega), Int.toNat_natCast, hσ k z, if_neg (by omega)]
        · rw [if_neg (by omega)]
      refine wl_end ?_
      show Gl_costOfCut_2_b σ num (k : Int) = _
      unfold Gl_costOfCut_2_b
      rw [h1, t, b1_q, if_neg (by decide), show (0 : Int) = ((0 : Nat) : Int) from rfl, c1, c2, b1_q, b1_q, wr_q (by unfold coF at i1; omega) (by unfold coF at i1; omega)]
      rfl
    intro m
    induction m with
    | zero =>
      intro k hk hj
      have hE : isE L g num k := ⟨by omega, hj, fun z => (by omega)⟩
      exact ⟨k, hE, fin k hE⟩
    | succ m ih =>
      intro k hk hj
      by_cases z : L k < num
      · obtain ⟨b, b1', b2'⟩ := ih (k + 1) (by omega) (fun j hj' => by
          by_cases e : j = k
          · rw [e]; exact z
          · exact hj j (by omega))
        refine ⟨b, b1', ?_⟩
        rw [← b2']
        refine wl_go ?_
        show Gl_costOfCut_2_b σ num (k : Int) = _
        unfold Gl_costOfCut_2_b
        rw [h1, if_pos (by omega), ix_q (by omega) (by omega), Int.toNat_natCast, hσ k (by omega), if_pos z, b1_q, i00, wr_q (by omega) (by omega), ll_q]
        rfl
      · have hE : isE L g num k := ⟨by omega, hj, fun _ => by omega⟩
        exact ⟨k, hE, fin k hE⟩
  obtain ⟨b, b1', b2'⟩ := key g 0 (by omega) (fun j hj => (by omega))
  exact ⟨b, b1', b2'⟩
/-- the first of the best -/
def isB (D : Nat → Prop) (f : Nat → Int) (c : Nat) : Prop := D c ∧ (∀ x, D x → f c ≤ f x) ∧ ∀ x, D x → x < c → f c < f x
theorem isB_u {D : Nat → Prop} {f : Nat → Int} {c c' : Nat} (h : isB D f c) (h' : isB D f c') : c = c' := by
  rcases Nat.lt_or_ge c c' with z | z
  · have h1 := h'.2.2 c h.1 z
    have h2 := h.2.1 c' h'.1
    omega
  · rcases Nat.lt_or_ge c' c with y | y
    · have h1 := h.2.2 c' h'.1 y
      have h2 := h'.2.1 c h.1
      omega
    · omega
theorem isB_c {D D' : Nat → Prop} {f : Nat → Int} {c : Nat} (h : isB D f c) (hd : ∀ x, D' x ↔ D x) : isB D' f c :=
  ⟨(hd c).mpr h.1, fun x hx => h.2.1 x ((hd x).mp hx), fun x hx => h.2.2 x ((hd x).mp hx)⟩
theorem isB_j {D D' : Nat → Prop} {f : Nat → Int} {c y : Nat} (h : isB D f c) (hy : ∀ x, D x → x ≤ y) (hd : ∀ x, D' x ↔ D x ∨ x = y) : isB D' f (if f y < f c then y else c) := by
  by_cases z : f y < f c
  · rw [if_pos z]
    refine ⟨(hd y).mpr (.inr rfl), fun x hx => ?_, fun x hx hl => ?_⟩
    · rcases (hd x).mp hx with e | e
      · have := h.2.1 x e; omega
      · rw [e]; exact Int.le_refl _
    · rcases (hd x).mp hx with e | e
      · have := h.2.1 x e; omega
      · omega
  · rw [if_neg z]
    refine ⟨(hd c).mpr (.inl h.1), fun x hx => ?_, fun x hx hl => ?_⟩
    · rcases (hd x).mp hx with e | e
      · exact h.2.1 x e
      · rw [e]; omega
    · rcases (hd x).mp hx with e | e
      · exact h.2.2 x e hl
      · have := hy c h.1; omega
end Split2
