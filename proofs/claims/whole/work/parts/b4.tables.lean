/-! text: the words of each text, as the class counts them and as the reference does -/
def wids (k : Nat) : List Nat := match k with
  | 0 => [8, 9, 10, 11, 12, 4, 5, 6, 7, 13, 14, 15, 16, 17, 18, 19, 20, 21, 22]
  | 1 => [13, 23, 24, 25, 19, 26, 27]
  | 2 => [28, 13, 29, 17, 18, 30]
  | _ => [31, 32, 14]
def tkT (k : Nat) : List Int := match k with
  | 0 => [20, 21, 22, 23, 24, 3, 4, 5, 6, 41, 42, 43, 44, 45, 46, 47, 48, 49, 50]
  | 1 => [7, 8, 9, 30, 31, 32, 33]
  | 2 => [10, 7, 11, 12, 13, 14]
  | _ => [15, 16, 17]
def wxL : List Nat → List Int → Int → Int
  | [], _, _ => -1
  | i :: r, l, j => if l = chL i then j else wxL r l (j + 1)
def tkW (k : Nat) (j : Int) : Int := if j = -1 then 1 else (tkT k).getD j.toNat 1
def jn : List Nat → List Int
  | [] => []
  | [i] => chL i
  | i :: i' :: r => chL i ++ 32 :: jn (i' :: r)
section Tables
theorem no32 : ∀ i, i < 33 → 4 ≤ i → ∀ x, x ∈ chL i → x ≠ 32 := by decide +kernel
theorem jn_k : ∀ k, k < 4 → chL k = jn (wids k) := by decide +kernel
theorem wid_in : ∀ k, k < 4 → ∀ i, i ∈ wids k → i < 33 ∧ 4 ≤ i := by decide +kernel
theorem fwJ {c : Nat → Int} {s e : Nat} (hse : s ≤ e) : ∀ (ids : List Nat) (j : Int), ids ≠ [] → (∀ i, i ∈ ids → i < 33 ∧ 4 ≤ i) → fwF c s e (jn ids) j s 1 = wxL ids (seg c s (e - s)) j
  | [], _, h, _ => absurd rfl h
  | [i], j, _, h => by
    have hi := h i List.mem_cons_self
    show fwF c s e (chL i) j s 1 = if seg c s (e - s) = chL i then j else -1
    exact fwE hse _ _ (no32 i hi.1 hi.2)
  | i :: i' :: r, j, _, h => by
    have hi := h i List.mem_cons_self
    have ih := fwJ (c := c) hse (i' :: r) (j + 1) (by simp) (fun x hx => h x (List.mem_cons_of_mem _ hx))
    show fwF c s e (chL i ++ 32 :: jn (i' :: r)) j s 1 = if seg c s (e - s) = chL i then j else wxL (i' :: r) (seg c s (e - s)) (j + 1)
    rw [fwN hse _ _ _ (no32 i hi.1 hi.2), ih]
/-- the class finds a word -/
theorem fnW {σ : Sg} {k s e : Nat} (hk : k < 4) (hse : s ≤ e) (he : e ≤ 400) : Re_findWord k (s : Int) (e : Int) σ = some (wxL (wids k) (seg (σ 145) s (e - s)) 0) := by
  unfold Re_findWord
  have h1 := fwC (σ := σ) (a1 := k) hse he (sLen.getD k 0) 0 s 0 1 (by omega) (by omega) (by omega) (by omega)
  rw [show Re_findWord_12_w k (e : Int) (s : Int) σ 0 (s : Int) 1 0 = _ from h1]
  show some (fwF (σ 145) s e (chL k) 0 s 1) = _
  rw [jn_k k hk, fwJ hse (wids k) 0 (by
    have : ∀ k, k < 4 → wids k ≠ [] := by decide +kernel
    exact this k hk) (wid_in k hk)]
theorem isC {α : Type} {P : Prop} {d : Decidable P} {A B : Option α} : b1 (some (@ite _ P d (1 : Int) 0)) (fun r => if r = 0 then A else B) = @ite _ P d B A := by
  by_cases h : P
  · rw [if_pos h, if_pos h, b1_q, if_neg (by decide)]
  · rw [if_neg h, if_neg h, b1_q, if_pos rfl]
def awF (l : List Int) : Option Int := if l = chL 13 then some 41 else if l = chL 14 then some 42 else if l = chL 15 then some 43 else if l = chL 16 then some 44 else if l = chL 17 then some 45 else if l = chL 18 then some 46 else if l = chL 19 then some 47 else if l = chL 20 then some 48 else if l = chL 21 then some 49 else if l = chL 22 then some 50 else some 1
def lwF (l : List Int) : Option Int := if l = chL 4 then some 3 else if l = chL 5 then some 4 else if l = chL 6 then some 5 else if l = chL 7 then some 6 else if l = chL 8 then some 20 else if l = chL 9 then some 21 else if l = chL 10 then some 22 else if l = chL 11 then some 23 else if l = chL 12 then some 24 else awF l
def hwF (l : List Int) : Option Int := if l = chL 13 then some 7 else if l = chL 23 then some 8 else if l = chL 24 then some 9 else if l = chL 25 then some 30 else if l = chL 19 then some 31 else if l = chL 26 then some 32 else if l = chL 27 then some 33 else some 1
def swF (l : List Int) : Option Int := if l = chL 28 then some 10 else if l = chL 13 then some 7 else if l = chL 29 then some 11 else if l = chL 17 then some 12 else if l = chL 18 then some 13 else if l = chL 30 then some 14 else some 1
def bwF (l : List Int) : Option Int := if l = chL 31 then some 15 else if l = chL 32 then some 16 else if l = chL 14 then some 17 else some 1
theorem lwT (l : List Int) : lwF l = some (tkW 0 (wxL (wids 0) l 0)) := by
  by_cases h4 : l = chL 4
  · subst h4; decide +kernel
  by_cases h5 : l = chL 5
  · subst h5; decide +kernel
  by_cases h6 : l = chL 6
  · subst h6; decide +kernel
  by_cases h7 : l = chL 7
  · subst h7; decide +kernel
  by_cases h8 : l = chL 8
  · subst h8; decide +kernel
  by_cases h9 : l = chL 9
  · subst h9; decide +kernel
  by_cases h10 : l = chL 10
  · subst h10; decide +kernel
  by_cases h11 : l = chL 11
  · subst h11; decide +kernel
  by_cases h12 : l = chL 12
  · subst h12; decide +kernel
  by_cases h13 : l = chL 13
  · subst h13; decide +kernel
  by_cases h14 : l = chL 14
  · subst h14; decide +kernel
  by_cases h15 : l = chL 15
  · subst h15; decide +kernel
  by_cases h16 : l = chL 16
  · subst h16; decide +kernel
  by_cases h17 : l = chL 17
  · subst h17; decide +kernel
  by_cases h18 : l = chL 18
  · subst h18; decide +kernel
  by_cases h19 : l = chL 19
  · subst h19; decide +kernel
  by_cases h20 : l = chL 20
  · subst h20; decide +kernel
  by_cases h21 : l = chL 21
  · subst h21; decide +kernel
  by_cases h22 : l = chL 22
  · subst h22; decide +kernel
  unfold lwF awF
  rw [if_neg h4, if_neg h5, if_neg h6, if_neg h7, if_neg h8, if_neg h9, if_neg h10, if_neg h11, if_neg h12, if_neg h13, if_neg h14, if_neg h15, if_neg h16, if_neg h17, if_neg h18, if_neg h19, if_neg h20, if_neg h21, if_neg h22]
  simp only [wids, wxL, if_neg h4, if_neg h5, if_neg h6, if_neg h7, if_neg h8, if_neg h9, if_neg h10, if_neg h11, if_neg h12, if_neg h13, if_neg h14, if_neg h15, if_neg h16, if_neg h17, if_neg h18, if_neg h19, if_neg h20, if_neg h21, if_neg h22]
  rfl
theorem hwT (l : List Int) : hwF l = some (tkW 1 (wxL (wids 1) l 0)) := by
  by_cases h13 : l = chL 13
  · subst h13; decide +kernel
  by_cases h23 : l = chL 23
  · subst h23; decide +kernel
  by_cases h24 : l = chL 24
  · subst h24; decide +kernel
  by_cases h25 : l = chL 25
  · subst h25; decide +kernel
  by_cases h19 : l = chL 19
  · subst h19; decide +kernel
  by_cases h26 : l = chL 26
  · subst h26; decide +kernel
  by_cases h27 : l = chL 27
  · subst h27; decide +kernel
  unfold hwF
  rw [if_neg h13, if_neg h23, if_neg h24, if_neg h25, if_neg h19, if_neg h26, if_neg h27]
  simp only [wids, wxL, if_neg h13, if_neg h23, if_neg h24, if_neg h25, if_neg h19, if_neg h26, if_neg h27]
  rfl
theorem swT (l : List Int) : swF l = some (tkW 2 (wxL (wids 2) l 0)) := by
  by_cases h28 : l = chL 28
  · subst h28; decide +kernel
  by_cases h13 : l = chL 13
  · subst h13; decide +kernel
  by_cases h29 : l = chL 29
  · subst h29; decide +kernel
  by_cases h17 : l = chL 17
  · subst h17; decide +kernel
  by_cases h18 : l = chL 18
  · subst h18; decide +kernel
  by_cases h30 : l = chL 30
  · subst h30; decide +kernel
  unfold swF
  rw [if_neg h28, if_neg h13, if_neg h29, if_neg h17, if_neg h18, if_neg h30]
  simp only [wids, wxL, if_neg h28, if_neg h13, if_neg h29, if_neg h17, if_neg h18, if_neg h30]
  rfl
theorem bwT (l : List Int) : bwF l = some (tkW 3 (wxL (wids 3) l 0)) := by
  by_cases h31 : l = chL 31
  · subst h31; decide +kernel
  by_cases h32 : l = chL 32
  · subst h32; decide +kernel
  by_cases h14 : l = chL 14
  · subst h14; decide +kernel
  unfold bwF
  rw [if_neg h31, if_neg h32, if_neg h14]
  simp only [wids, wxL, if_neg h31, if_neg h32, if_neg h14]
  rfl
theorem ite_some {P : Prop} {d : Decidable P} {A : Option Int} {v : Int} : (b1 (@ite _ P d (some v) A) fun r => (some r : Option Int)) = @ite _ P d (some v) A := by
  by_cases h : P
  · rw [if_pos h]; rfl
  · rw [if_neg h]; cases A <;> rfl
/-- the reference names a word -/
theorem wordQ {τ : Sg} {k s e : Nat} (hk : k < 4) (h12 : τ 172 12 = k) (h17 : τ 172 17 = e) (h19 : τ 172 19 = s) (hse : s ≤ e) (he : e ≤ 400) : Mo_word τ = some (tkW k (wxL (wids k) (seg (τ 180) s (e - s)) 0)) := by
  have hq : ∀ i, Mo_is i τ = some (if seg (τ 180) s (e - s) = chL i then 1 else 0) := fun i => isQ h17 h19 hse he
  have ha : Mo_asked τ = awF (seg (τ 180) s (e - s)) := by
    unfold Mo_asked awF
    simp only [hq, isC]
  have hl : Mo_lawWord τ = lwF (seg (τ 180) s (e - s)) := by
    unfold Mo_lawWord lwF
    simp only [hq, isC, ha]
    have : ∀ o : Option Int, (b1 o fun r => (some r : Option Int)) = o := fun o => by cases o <;> rfl
    simp only [this]
  have hh : Mo_hourWord τ = hwF (seg (τ 180) s (e - s)) := by
    unfold Mo_hourWord hwF
    simp only [hq, isC]
  have hs : Mo_sayingWord τ = swF (seg (τ 180) s (e - s)) := by
    unfold Mo_sayingWord swF
    simp only [hq, isC]
  have hid : ∀ o : Option Int, (b1 o fun r => (some r : Option Int)) = o := fun o => by cases o <;> rfl
  unfold Mo_word
  rw [h12, hl, hh, hs, hid, hid, hid]
  have hk' : k = 0 ∨ k = 1 ∨ k = 2 ∨ k = 3 := by omega
  rcases hk' with z | z | z | z <;> subst z
  · rw [if_pos (show ((0 : Nat) : Int) = 0 from rfl)]; exact lwT _
  · rw [if_neg (by decide), if_pos (show ((1 : Nat) : Int) = 1 from rfl)]; exact hwT _
  · rw [if_neg (by decide), if_neg (by decide), if_pos (show ((2 : Nat) : Int) = 2 from rfl)]; exact swT _
  · rw [if_neg (by decide), if_neg (by decide), if_neg (by decide)]
    simp only [hq, isC]
    exact bwT _
end Tables
