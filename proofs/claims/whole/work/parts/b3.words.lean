/-! text: words on the tape -/
def seg (c : Nat → Int) : Nat → Nat → List Int
  | _, 0 => []
  | s, m + 1 => c s :: seg c (s + 1) m
def chS (i : Nat) : Nat → Nat → List Int
  | _, 0 => []
  | j, m + 1 => chr i j :: chS i (j + 1) m
def chL (i : Nat) : List Int := chS i 0 (sLen.getD i 0)
section Words
theorem seg_len {c : Nat → Int} : ∀ m s, (seg c s m).length = m
  | 0, _ => rfl
  | m + 1, s => by unfold seg; rw [List.length_cons, seg_len m (s + 1)]
theorem chS_len {i : Nat} : ∀ m j, (chS i j m).length = m
  | 0, _ => rfl
  | m + 1, j => by unfold chS; rw [List.length_cons, chS_len m (j + 1)]
variable {σ τ : Sg}
theorem is0 (i k : Nat) : Mo_is_24_w i τ 0 (k : Int) = some 0 := by
  refine wl_end ?_
  show Mo_is_24_b i τ 0 (k : Int) = _
  unfold Mo_is_24_b sL
  rw [b1_q]
  by_cases z : (k : Int) < ((sLen.getD i 0 : Nat) : Int)
  · rw [if_pos z, if_pos rfl, zb_q0]
  · rw [if_neg z, zb_q0]
theorem is1 {i s : Nat} (h19 : τ 172 19 = s) (hl : s + sLen.getD i 0 ≤ 400) : ∀ m k : Nat, k + m = sLen.getD i 0 → Mo_is_24_w i τ 1 (k : Int) = some (if seg (τ 180) (s + k) m = chS i k m then 1 else 0)
  | 0, k, hk => by
    refine wl_end ?_
    show Mo_is_24_b i τ 1 (k : Int) = _
    unfold Mo_is_24_b sL
    rw [b1_q, if_neg (by omega), zb_q1, if_pos (show seg (τ 180) (s + k) 0 = chS i k 0 from rfl)]
  | m + 1, k, hk => by
    have hs := sLen_small i
    have ih := is1 h19 hl m (k + 1) (by omega)
    show wl _ _ = _
    by_cases e : τ 180 (s + k) = chr i k
    · have st : Mo_is_24_b i τ 1 (k : Int) = some (.inl (1, (k : Int) + 1)) := by
        unfold Mo_is_24_b sL sC
        rw [b1_q, if_pos (by omega), if_neg (by decide), h19, ix_q (by omega) (by omega), ix_q (by omega) (by omega), b1_q, show ((s : Int) + (k : Int)).toNat = s + k by omega, Int.toNat_natCast, if_pos e, wr_q (by omega) (by omega), ll_q]
      refine (wl_go st).trans (ih.trans ?_)
      congr 1
      show (if seg (τ 180) (s + (k + 1)) m = chS i (k + 1) m then (1 : Int) else 0) = if (τ 180 (s + k) :: seg (τ 180) (s + k + 1) m) = (chr i k :: chS i (k + 1) m) then 1 else 0
      rw [e, show s + (k + 1) = s + k + 1 by omega]
      by_cases z : seg (τ 180) (s + k + 1) m = chS i (k + 1) m
      · rw [if_pos z, if_pos (by rw [z])]
      · rw [if_neg z, if_neg (fun y => z (List.cons.inj y).2)]
    · have st : Mo_is_24_b i τ 1 (k : Int) = some (.inl (0, (k : Int) + 1)) := by
        unfold Mo_is_24_b sL sC
        rw [b1_q, if_pos (by omega), if_neg (by decide), h19, ix_q (by omega) (by omega), ix_q (by omega) (by omega), b1_q, show ((s : Int) + (k : Int)).toNat = s + k by omega, Int.toNat_natCast, if_neg e, wr_q (by omega) (by omega), ll_q]
      refine (wl_go st).trans ((is0 (τ := τ) i (k + 1)).trans ?_)
      rw [if_neg]
      intro y
      exact e (List.cons.inj y).1
/-- the reference: does this word stand there -/
theorem isQ {i s e : Nat} (h17 : τ 172 17 = e) (h19 : τ 172 19 = s) (hse : s ≤ e) (he : e ≤ 400) : Mo_is i τ = some (if seg (τ 180) s (e - s) = chL i then 1 else 0) := by
  unfold Mo_is sL
  rw [b1_q, h17, h19, wr_q (by omega) (by omega)]
  by_cases z : (e : Int) - (s : Int) = ((sLen.getD i 0 : Nat) : Int)
  · rw [if_pos z, b1_q]
    have := is1 (τ := τ) (i := i) h19 (by omega) (sLen.getD i 0) 0 (by omega)
    rw [show Mo_is_24_w i τ 1 0 = _ from this, show e - s = sLen.getD i 0 by omega]
    rfl
  · rw [if_neg z, b1_q]
    rw [show Mo_is_24_w i τ 0 0 = _ from is0 i 0, if_neg]
    intro y
    have := congrArg List.length y
    unfold chL at this
    rw [seg_len, chS_len] at this
    omega
def fwF (c : Nat → Int) (s e : Nat) : List Int → Int → Nat → Int → Int
  | [], word, i, same => if same = 0 then -1 else if i = e then word else -1
  | x :: r, word, i, same => if x = 32 then (if same ≠ 0 ∧ i = e then word else fwF c s e r (word + 1) s 1) else fwF c s e r word (i + 1) (if same ≠ 0 ∧ i < e ∧ c i = x then 1 else 0)
/-- the class: which word -/
theorem fwC {a1 s e : Nat} (hse : s ≤ e) (he : e ≤ 400) : ∀ (m j i : Nat) (word same : Int), j + m = sLen.getD a1 0 → i ≤ s + j → 0 ≤ word → word ≤ j → Re_findWord_12_w a1 (e : Int) (s : Int) σ word (i : Int) same (j : Int) = some (fwF (σ 145) s e (chS a1 j m) word i same)
  | 0, j, i, word, same, hj, hi, h0, h1 => by
    refine wl_end ?_
    show Re_findWord_12_b a1 (e : Int) (s : Int) σ word (i : Int) same (j : Int) = _
    unfold Re_findWord_12_b sL chS fwF
    rw [b1_q, if_neg (by omega)]
    by_cases z : same = 0
    · rw [if_pos z, if_pos z]
    · rw [if_neg z, if_neg z]
      by_cases y : i = e
      · rw [if_pos (by omega), if_pos y]
      · rw [if_neg (by omega), if_neg y]
  | m + 1, j, i, word, same, hj, hi, h0, h1 => by
    have hs := sLen_small a1
    have ih := fun i' word' same' (h1 : i' ≤ s + (j + 1)) (h2 : 0 ≤ word') (h3 : word' ≤ ((j + 1 : Nat) : Int)) => fwC (a1 := a1) hse he m (j + 1) i' word' same' (by omega) h1 h2 h3
    have hc : sC a1 (j : Int) = some (chr a1 j) := by unfold sC; rw [ix_q (by omega) (by omega), Int.toNat_natCast]
    have hl : sL a1 = some ((sLen.getD a1 0 : Nat) : Int) := rfl
    show wl _ _ = some (if chr a1 j = 32 then (if same ≠ 0 ∧ i = e then word else fwF (σ 145) s e (chS a1 (j + 1) m) (word + 1) s 1) else fwF (σ 145) s e (chS a1 (j + 1) m) word (i + 1) (if same ≠ 0 ∧ i < e ∧ σ 145 i = chr a1 j then 1 else 0))
    by_cases z : chr a1 j = 32
    · rw [if_pos z]
      by_cases y : same ≠ 0 ∧ i = e
      · rw [if_pos y]
        refine wl_end ?_
        show Re_findWord_12_b a1 (e : Int) (s : Int) σ word (i : Int) same (j : Int) = _
        unfold Re_findWord_12_b
        rw [hl, b1_q, if_pos (by omega), hc, b1_q, if_pos z, if_neg y.1, if_pos (by omega), b1_q, i00]
      · rw [if_neg y]
        refine (wl_go ?_).trans (ih s (word + 1) 1 (by omega) (by omega) (by omega))
        show Re_findWord_12_b a1 (e : Int) (s : Int) σ word (i : Int) same (j : Int) = _
        unfold Re_findWord_12_b
        have t : (if same = 0 then some 1 else if (i : Int) = (e : Int) then some 0 else some 1) = some (1 : Int) := by
          by_cases x : same = 0
          · rw [if_pos x]
          · rw [if_neg x, if_neg (fun u => y ⟨x, by omega⟩)]
        rw [hl, b1_q, if_pos (by omega), hc, b1_q, if_pos z, t, b1_q, if_neg (by decide), wr_q (by omega) (by omega), wr_q (by omega) (by omega), ll_q, ll_q]
        rfl
    · rw [if_neg z]
      refine (wl_go ?_).trans (ih (i + 1) word (if same ≠ 0 ∧ i < e ∧ σ 145 i = chr a1 j then 1 else 0) (by omega) h0 (by omega))
      show Re_findWord_12_b a1 (e : Int) (s : Int) σ word (i : Int) same (j : Int) = _
      unfold Re_findWord_12_b
      rw [hl, b1_q, if_pos (by omega), hc, b1_q, if_neg z, wr_q (n := (i : Int) + 1) (by omega) (by omega), wr_q (by omega) (by omega)]
      by_cases x : same = 0
      · rw [if_pos x, if_neg (fun u => u.1 x), ll_q, ll_q]
        rfl
      · rw [if_neg x]
        by_cases y : i < e
        · rw [if_pos (by omega), ix_q (by omega) (by omega), b1_q, Int.toNat_natCast]
          by_cases v : σ 145 i = chr a1 j
          · rw [if_pos v, if_pos ⟨x, y, v⟩, ll_q, ll_q]
            rfl
          · rw [if_neg v, if_neg (fun u => v u.2.2), ll_q, ll_q]
            rfl
        · rw [if_neg (by omega), if_neg (fun u => y u.2.1), ll_q, ll_q]
          rfl
/-- one word of the row -/
theorem fw1 {c : Nat → Int} {s e : Nat} (r : List Int) (word : Int) : ∀ (wd : List Int) (i : Nat) (same : Int), (∀ x, x ∈ wd → x ≠ 32) → i ≤ e ∨ same = 0 → (same = 0 ∨ same = 1) → ∃ i' same', fwF c s e (wd ++ r) word i same = fwF c s e r word i' same' ∧ (same' = 0 ∨ same' = 1) ∧ ((same' = 1 ∧ i' = e) ↔ (same = 1 ∧ seg c i (e - i) = wd))
  | [], i, same, _, hi, hs => by
    refine ⟨i, same, rfl, hs, ?_⟩
    constructor
    · rintro ⟨h1, h2⟩
      rw [h2, Nat.sub_self]
      exact ⟨h1, rfl⟩
    · rintro ⟨h1, h2⟩
      refine ⟨h1, ?_⟩
      have := congrArg List.length h2
      rw [seg_len] at this
      simp at this
      rcases hi with z | z
      · omega
      · rw [z] at h1; cases h1
  | x :: wd, i, same, hx, hi, hs => by
    have hx0 : x ≠ 32 := hx x List.mem_cons_self
    have e1 : fwF c s e ((x :: wd) ++ r) word i same = fwF c s e (wd ++ r) word (i + 1) (if same ≠ 0 ∧ i < e ∧ c i = x then 1 else 0) := by
      show (if x = 32 then _ else _) = _
      rw [if_neg hx0]
      rfl
    by_cases z : same ≠ 0 ∧ i < e ∧ c i = x
    · rw [if_pos z] at e1
      obtain ⟨i', same', g1, g2, g3⟩ := fw1 (c := c) (s := s) (e := e) r word wd (i + 1) 1 (fun y hy => hx y (List.mem_cons_of_mem _ hy)) (.inl (by omega)) (.inr rfl)
      refine ⟨i', same', e1.trans g1, g2, g3.trans ?_⟩
      have hs1 : same = 1 := by
        rcases hs with y | y
        · exact absurd y z.1
        · exact y
      rw [show e - i = (e - (i + 1)) + 1 by omega]
      show (1 : Int) = 1 ∧ seg c (i + 1) (e - (i + 1)) = wd ↔ same = 1 ∧ (c i :: seg c (i + 1) (e - (i + 1))) = x :: wd
      constructor
      · rintro ⟨-, h2⟩
        exact ⟨hs1, by rw [z.2.2, h2]⟩
      · rintro ⟨-, h2⟩
        exact ⟨rfl, (List.cons.inj h2).2⟩
    · rw [if_neg z] at e1
      obtain ⟨i', same', g1, g2, g3⟩ := fw1 (c := c) (s := s) (e := e) r word wd (i + 1) 0 (fun y hy => hx y (List.mem_cons_of_mem _ hy)) (.inr rfl) (.inl rfl)
      refine ⟨i', same', e1.trans g1, g2, g3.trans ?_⟩
      constructor
      · rintro ⟨h1, -⟩
        cases h1
      · rintro ⟨h1, h2⟩
        exfalso
        apply z
        rcases hi with y | y
        · have hl := congrArg List.length h2
          rw [seg_len, List.length_cons] at hl
          have : i < e := by omega
          refine ⟨by rw [h1]; decide, this, ?_⟩
          rw [show e - i = (e - (i + 1)) + 1 by omega] at h2
          exact (List.cons.inj h2).1
        · rw [y] at h1; cases h1
theorem fwN {c : Nat → Int} {s e : Nat} (hse : s ≤ e) (wd r : List Int) (word : Int) (hx : ∀ x, x ∈ wd → x ≠ 32) : fwF c s e (wd ++ 32 :: r) word s 1 = if seg c s (e - s) = wd then word else fwF c s e r (word + 1) s 1 := by
  obtain ⟨i', same', g1, g2, g3⟩ := fw1 (c := c) (s := s) (e := e) (32 :: r) word wd s 1 hx (.inl hse) (.inr rfl)
  rw [g1]
  show (if (32 : Int) = 32 then (if same' ≠ 0 ∧ i' = e then word else fwF c s e r (word + 1) s 1) else _) = _
  rw [if_pos rfl]
  by_cases z : seg c s (e - s) = wd
  · obtain ⟨h1, h2⟩ := g3.mpr ⟨rfl, z⟩
    rw [if_pos z, if_pos ⟨by rw [h1]; decide, h2⟩]
  · rw [if_neg z, if_neg]
    rintro ⟨h1, h2⟩
    rcases g2 with y | y
    · exact h1 y
    · exact z (g3.mp ⟨y, h2⟩).2
theorem fwE {c : Nat → Int} {s e : Nat} (hse : s ≤ e) (wd : List Int) (word : Int) (hx : ∀ x, x ∈ wd → x ≠ 32) : fwF c s e wd word s 1 = if seg c s (e - s) = wd then word else -1 := by
  obtain ⟨i', same', g1, g2, g3⟩ := fw1 (c := c) (s := s) (e := e) [] word wd s 1 hx (.inl hse) (.inr rfl)
  rw [List.append_nil] at g1
  rw [g1]
  show (if same' = 0 then (-1 : Int) else if i' = e then word else -1) = _
  by_cases z : seg c s (e - s) = wd
  · obtain ⟨h1, h2⟩ := g3.mpr ⟨rfl, z⟩
    rw [if_pos z, if_neg (by rw [h1]; decide), if_pos h2]
  · rw [if_neg z]
    by_cases y : same' = 0
    · rw [if_pos y]
    · rw [if_neg y, if_neg]
      intro h2
      rcases g2 with x | x
      · exact y x
      · exact z (g3.mp ⟨x, h2⟩).2
end Words
