/-! pure: how runs are reckoned -/
section PureBase
variable {α β γ δ ε : Type}
theorem ll_q (v : α) (f : α → Option β) : ll v f = f v := rfl
theorem b1_q (a : α) (f : α → Option β) : b1 (some a) f = f a := rfl
theorem b2_q (a : α) (b : β) (f : α → β → Option γ) : b2 (some (a, b)) f = f a b := rfl
theorem b3_q (a : α) (b : β) (c : γ) (f : α → β → γ → Option δ) : b3 (some (a, b, c)) f = f a b c := rfl
theorem b4_q (a : α) (b : β) (c : γ) (d : δ) (f : α → β → γ → δ → Option ε) : b4 (some (a, b, c, d)) f = f a b c d := rfl
theorem ix_q {i n : Int} {o : Option α} (h0 : 0 ≤ i) (h1 : i < n) : ix i n o = o := if_pos ⟨h0, h1⟩
theorem nzd_q {y : Int} {o : Option α} (h : y ≠ 0) : nzd y o = o := if_neg h
theorem zb_q0 {o : Option α} : zb 0 o = o := if_pos (Or.inl rfl)
theorem zb_q1 {o : Option α} : zb 1 o = o := if_pos (Or.inr rfl)
theorem zb_q {v : Int} {o : Option α} (h : v = 0 ∨ v = 1) : zb v o = o := if_pos h
theorem wr_q {n : Int} (h0 : -2147483648 ≤ n) (h1 : n < 2147483648) : wr n = n := wr_id ⟨h0, h1⟩
theorem wrJ_q {n : Int} (h0 : -9223372036854775808 ≤ n) (h1 : n < 9223372036854775808) : wrJ n = n := wrJE ⟨h0, h1⟩
/-- a cell that was not written -/
theorem su_c {σ : Sg} {k j k' : Nat} {v : Int} (h : k' ≠ k) : su σ k j v k' = σ k' := by funext j'; exact su_k h
/-- loops -/
theorem wl_run {B : α → Option (α ⊕ β)} (m : α → Nat) (I : α → Prop) (Q : β → Prop) (h : ∀ a, I a → (∃ b, B a = some (.inr b) ∧ Q b) ∨ ∃ c, B a = some (.inl c) ∧ I c ∧ m c < m a) : ∀ a, I a → ∃ b, wl B a = some b ∧ Q b := by
  have key : ∀ n a, m a < n → I a → ∃ b, wl B a = some b ∧ Q b := by
    intro n
    induction n with
    | zero => intro a h0; omega
    | succ n ih =>
      intro a hn ha
      rcases h a ha with ⟨b, h1, h2⟩ | ⟨c, h1, h2, h3⟩
      · exact ⟨b, by rw [wl_eq, h1]; rfl, h2⟩
      · obtain ⟨b, g1, g2⟩ := ih c (by omega) h2
        exact ⟨b, by rw [wl_eq, h1]; exact g1, g2⟩
  exact fun a ha => key (m a + 1) a (by omega) ha
/-- two loops, turn by turn -/
theorem wl_two {B : α → Option (α ⊕ β)} {B' : γ → Option (γ ⊕ δ)} (m : α → Nat) (R : α → γ → Prop) (Q : β → δ → Prop) (h : ∀ a a', R a a' → (∃ b b', B a = some (.inr b) ∧ B' a' = some (.inr b') ∧ Q b b') ∨ ∃ c c', B a = some (.inl c) ∧ B' a' = some (.inl c') ∧ R c c' ∧ m c < m a) : ∀ a a', R a a' → ∃ b b', wl B a = some b ∧ wl B' a' = some b' ∧ Q b b' := by
  have key : ∀ n a a', m a < n → R a a' → ∃ b b', wl B a = some b ∧ wl B' a' = some b' ∧ Q b b' := by
    intro n
    induction n with
    | zero => intro a a' h0; omega
    | succ n ih =>
      intro a a' hn ha
      rcases h a a' ha with ⟨b, b', h1, h2, h3⟩ | ⟨c, c', h1, h2, h3, h4⟩
      · exact ⟨b, b', by rw [wl_eq, h1]; rfl, by rw [wl_eq, h2]; rfl, h3⟩
      · obtain ⟨b, b', g1, g2, g3⟩ := ih c c' (by omega) h3
        exact ⟨b, b', by rw [wl_eq, h1]; exact g1, by rw [wl_eq, h2]; exact g2, g3⟩
  exact fun a a' ha => key (m a + 1) a a' (by omega) ha
end PureBase
theorem isIn_q (v a b : Int) : Mo_isIn v a b = some (if a ≤ v ∧ v ≤ b then 1 else 0) := by
  unfold Mo_isIn
  by_cases h1 : v < a
  · rw [if_pos h1, if_neg (by omega)]
  · rw [if_neg h1]
    by_cases h2 : b < v
    · rw [if_pos h2, if_neg (by omega)]
    · rw [if_neg h2, if_pos (by omega)]
theorem within_q (v a b : Int) : Td_within v a b = some (if a ≤ v ∧ v ≤ b then 1 else 0) := by
  unfold Td_within
  by_cases h1 : v < a
  · rw [if_pos h1, if_neg (by omega)]
  · rw [if_neg h1]
    by_cases h2 : b < v
    · rw [if_pos h2, if_neg (by omega)]
    · rw [if_neg h2, if_pos (by omega)]
theorem isOneM_q (v : Int) : Mo_isOne v = some (if v = 0 ∨ v = 1 then 1 else 0) := by
  unfold Mo_isOne
  rw [isIn_q, b1_q]
  congr 1
  by_cases h : v = 0 ∨ v = 1
  · rw [if_pos h, if_pos (by omega)]
  · rw [if_neg h, if_neg (by omega)]
theorem isOneC_q (v : Int) : Td_isOne v = some (if v = 0 ∨ v = 1 then 1 else 0) := by
  unfold Td_isOne
  by_cases h1 : v = 0
  · simp [h1]
  · by_cases h2 : v = 1
    · simp [h2]
    · simp [h1, h2]
theorem max_q (a b : Int) : Jm_max a b = some (max a b) := by
  unfold Jm_max; by_cases h : a < b
  · rw [if_pos h]; congr 1; omega
  · rw [if_neg h]; congr 1; omega
theorem min_q (a b : Int) : Jm_min a b = some (min a b) := by
  unfold Jm_min; by_cases h : b < a
  · rw [if_pos h]; congr 1; omega
  · rw [if_neg h]; congr 1; omega
theorem lesser_q (a b : Int) : Mo_lesser a b = some (min a b) := by
  unfold Mo_lesser; by_cases h : a < b
  · rw [if_pos h]; congr 1; omega
  · rw [if_neg h]; congr 1; omega
theorem greater_q (a b : Int) : Mo_greater a b = some (max a b) := by
  unfold Mo_greater; by_cases h : b < a
  · rw [if_pos h]; congr 1; omega
  · rw [if_neg h]; congr 1; omega
/-! the invariant between the class's memory σ and the reference's τ (w: its row of numbers) -/
def mW (w : Nat → Int) (i f : Nat) : Int := w (8 + 9 * i + f)
def opn (w : Nat → Int) : Nat → Int
  | 0 => 0
  | n + 1 => opn w n + (if mW w n 2 = -1 ∧ mW w n 7 = 0 then 1 else 0)
def awt (w : Nat → Int) : Nat → Int
  | 0 => 0
  | n + 1 => awt w n + (if mW w n 8 = -1 then 0 else 1)
/-- a talk's cells from t on are what w tells -/
def TR (t : Nat) (σ : Sg) (w : Nat → Int) : Prop :=
  σ t 0 = w 0 ∧ σ t 1 = w 1 ∧ σ t 2 = w 3 ∧ σ t 3 = w 2 ∧ σ t 4 = opn w (w 3).toNat ∧ σ t 5 = awt w (w 3).toNat ∧
  (∀ j, j < 2 → σ (t + 1) j = w (4 + j) ∧ σ (t + 2) j = w (6 + j)) ∧
  ∀ i f : Nat, (i : Int) < w 3 → f < 9 → σ (t + 4 + f) i = mW w i f
def MF (w : Nat → Int) (i : Nat) : Prop :=
  (mW w i 0 = 0 ∨ mW w i 0 = 1) ∧ (0 ≤ mW w i 1 ∧ mW w i 1 ≤ w 0) ∧ (mW w i 2 = -1 ∨ (mW w i 1 < mW w i 2 ∧ mW w i 2 ≤ w 0)) ∧ (1 ≤ mW w i 3 ∧ mW w i 3 ≤ 99) ∧ (0 ≤ mW w i 4 ∧ mW w i 4 ≤ 9) ∧ (mW w i 5 = 0 ∨ mW w i 5 = 1) ∧
  (mW w i 6 = -1 ∨ ∃ k : Nat, k < i ∧ mW w i 6 = k ∧ mW w k 0 = 1 - mW w i 0 ∧ mW w k 1 < mW w i 1) ∧ (mW w i 7 = 0 ∨ mW w i 7 = 1) ∧ (mW w i 8 = -1 ∨ (w 0 ≤ mW w i 8 ∧ mW w i 8 ≤ w 0 + 1000 ∧ mW w i 2 ≠ -1)) ∧ ∀ k, k < i → mW w k 1 ≤ mW w i 1
def WF (w : Nat → Int) : Prop :=
  (0 ≤ w 0 ∧ w 0 ≤ 200000) ∧ (0 ≤ w 2 ∧ w 2 ≤ 150) ∧ (0 ≤ w 3 ∧ w 3 ≤ 60) ∧ (∀ j, j < 2 → (0 ≤ w (4 + j) ∧ w (4 + j) ≤ 99) ∧ 0 ≤ w (6 + j) ∧ w (6 + j) ≤ 9999) ∧ ∀ i : Nat, (i : Int) < w 3 → MF w i
/-- the hours, the sayings, the habits as sheets (s: the sheet's fields, c: its cells) -/
def HR (s c : Nat → Int) (w : Nat → Int) : Prop :=
  s 0 = w 551 ∧ (0 ≤ w 551 ∧ w 551 ≤ 16 ∧ 0 ≤ s 2 ∧ 0 ≤ s 3) ∧ (0 < w 551 → s 1 = 4 ∧ s 2 = 4 * w 551) ∧ (∀ j : Nat, (j : Int) < 4 * w 551 → c j = w (555 + j)) ∧
  ∀ i : Nat, (i : Int) < w 551 → (w (555 + 4 * i) = 0 ∨ w (555 + 4 * i) = 1) ∧ (0 ≤ w (555 + (4 * i + 1)) ∧ w (555 + (4 * i + 1)) ≤ 23) ∧ (1 ≤ w (555 + (4 * i + 2)) ∧ w (555 + (4 * i + 2)) ≤ 24) ∧ 0 ≤ w (555 + (4 * i + 3)) ∧ w (555 + (4 * i + 3)) ≤ 3
def SR (s c : Nat → Int) (w : Nat → Int) : Prop :=
  s 0 = w 552 ∧ (0 ≤ w 552 ∧ w 552 ≤ 16 ∧ 0 ≤ s 2 ∧ 0 ≤ s 3) ∧ (0 < w 552 → s 1 = 6 ∧ s 2 = 6 * w 552) ∧
  ∀ i : Nat, (i : Int) < w 552 → c (6 * i) = w (619 + 5 * i) ∧ (0 ≤ w (619 + 5 * i) ∧ w (619 + 5 * i) ≤ 9999) ∧ c (6 * i + 1) = w (619 + 5 * i + 1) ∧ (w (619 + 5 * i + 1) = 0 ∨ w (619 + 5 * i + 1) = 1) ∧
    ((c (6 * i + 2) = 1 ∧ w (619 + 5 * i + 2) = 0) ∨ (c (6 * i + 2) = 0 ∧ c (6 * i + 3) = w (619 + 5 * i + 2) ∧ (1 ≤ w (619 + 5 * i + 2) ∧ w (619 + 5 * i + 2) ≤ 99) ∧ c (6 * i + 4) = w (619 + 5 * i + 3) ∧ (0 ≤ w (619 + 5 * i + 3) ∧ w (619 + 5 * i + 3) ≤ 9) ∧ c (6 * i + 5) = w (619 + 5 * i + 4) ∧ (w (619 + 5 * i + 4) = 0 ∨ w (619 + 5 * i + 4) = 1)))
def BR (s c : Nat → Int) (w : Nat → Int) : Prop :=
  s 0 = w 553 ∧ (0 ≤ w 553 ∧ w 553 ≤ 8 ∧ 0 ≤ s 2 ∧ 0 ≤ s 3) ∧ (0 < w 553 → s 1 = 2 ∧ s 2 = 2 * w 553) ∧ ∀ j : Nat, (j : Int) < 2 * w 553 → c j = w (699 + j) ∧ 1 ≤ w (699 + j) ∧ w (699 + j) ≤ 999
/-- a step of the law as the class holds it (x) and as the reference does (s, v) -/
def stepR (x s v : Int) : Prop :=
  (s = 0 ∧ 0 ≤ v ∧ v ≤ 9999 ∧ x = v * 16) ∨ (1 ≤ s ∧ s ≤ 10 ∧ x = (s - 1) * 16 + 1) ∨ (s = 26 ∧ 1 ≤ v ∧ v ≤ 9999 ∧ x = v * 16 + 2) ∨ (s = 30 ∧ x = 3) ∨ (23 ≤ s ∧ s ≤ 25 ∧ x = s - 19) ∨ (27 ≤ s ∧ s ≤ 29 ∧ x = s - 20) ∨ (31 ≤ s ∧ s ≤ 32 ∧ x = s - 21)
/-- kinds on the pile: true a truth, false a number -/
def tyS (s : Int) (st : List Bool) : Option (List Bool) :=
  if 0 ≤ s ∧ s ≤ 10 then (if st.length < 60 then some (false :: st) else none)
  else if s = 26 then (match st with | false :: r => some (false :: r) | _ => none)
  else if s = 30 then (match st with | true :: r => some (true :: r) | _ => none)
  else if 23 ≤ s ∧ s ≤ 25 then (match st with | false :: false :: r => some (false :: r) | _ => none)
  else if 27 ≤ s ∧ s ≤ 29 then (match st with | false :: false :: r => some (true :: r) | _ => none)
  else if 31 ≤ s ∧ s ≤ 32 then (match st with | true :: true :: r => some (true :: r) | _ => none)
  else none
def tyN (k : Nat → Int) : Nat → Nat → List Bool → Option (List Bool)
  | _, 0, st => some st
  | a, n + 1, st => (tyS (k a) st).bind (fun st' => tyN k (a + 1) n st')
def LR (s c d : Nat → Int) (w : Nat → Int) : Prop :=
  s 0 = w 550 ∧ (0 ≤ w 550 ∧ w 550 ≤ 16 ∧ 0 ≤ s 2) ∧ (0 < w 550 → s 1 = 4 ∧ s 2 = 4 * w 550) ∧ (0 ≤ s 3 ∧ s 3 ≤ 400) ∧
  (∀ i : Nat, (i : Int) < w 550 → (0 ≤ c (4 * i) ∧ c (4 * i) ≤ 4 ∧ c (4 * i) + 20 = w (1381 + i)) ∧ c (4 * i + 1) = w (1333 + i) ∧ c (4 * i + 2) = w (1349 + i) ∧ c (4 * i + 3) = w (1365 + i) ∧ (0 ≤ w (1333 + i) ∧ w (1333 + i) ≤ w (1349 + i) ∧ w (1349 + i) ≤ w (1365 + i) ∧ w (1365 + i) ≤ s 3) ∧
    tyN (fun j => w (1397 + 2 * j)) (w (1333 + i)).toNat (w (1349 + i) - w (1333 + i)).toNat [] = some [false] ∧ (w (1349 + i) < w (1365 + i) → tyN (fun j => w (1397 + 2 * j)) (w (1349 + i)).toNat (w (1365 + i) - w (1349 + i)).toNat [] = some [true])) ∧
  ∀ j : Nat, (j : Int) < s 3 → stepR (d j) (w (1397 + 2 * j)) (w (1398 + 2 * j))
/-- what was told, of the world whose cells begin at W -/
def WS (W : Nat) (σ : Sg) (w : Nat → Int) : Prop :=
  (∀ j, j < 2 → σ (W + 4) j = w (548 + j) ∧ (w (548 + j) = 0 ∨ w (548 + j) = 1)) ∧
  HR (σ (W + 19)) (σ (W + 20)) w ∧ SR (σ (W + 22)) (σ (W + 23)) w ∧ BR (σ (W + 25)) (σ (W + 26)) w ∧ LR (σ (W + 16)) (σ (W + 17)) (σ (W + 18)) w ∧
  (σ W 4 = w 554 ∧ (0 ≤ w 554 ∧ w 554 ≤ 10) ∧ ∀ j : Nat, (j : Int) < w 554 → σ (W + 28) j = w (715 + j) ∧ 0 ≤ w (715 + j) ∧ w (715 + j) ≤ 1439) ∧
  ∀ k, k < 4 → σ (W + 29) k = w (725 + 2 * k) ∧ σ (W + 29) (k + 4) = w (725 + 2 * k + 1)
def BK (b : Nat → Int) (w : Nat → Int) : Prop := ∀ j : Nat, (j : Int) < 4 * w 2 → b j = w (733 + j)
def WR (W : Nat) (σ : Sg) (w : Nat → Int) : Prop := TR (W + 1) σ w ∧ WF w ∧ w 0 ≤ 99999 ∧ WS W σ w ∧ BK (σ (W + 14)) w
/-- the talk that lies k-th in the past -/
def pT (σ : Sg) (k : Nat) : Nat := 63 + 13 * (((σ 61 1).toNat + k) % 6)
def PS (σ τ : Sg) : Prop :=
  σ 61 2 = τ 172 4 ∧ (0 ≤ τ 172 4 ∧ τ 172 4 ≤ 6) ∧ (0 ≤ σ 61 1 ∧ σ 61 1 ≤ 5) ∧
  ∀ k : Nat, (k : Int) < τ 172 4 → TR (pT σ k) σ (fun j => τ 175 (548 * k + j)) ∧ WF (fun j => τ 175 (548 * k + j)) ∧ τ 175 (548 * k) ≤ 99999 ∧ (τ 175 (548 * k + 2) ≤ τ 173 2 ∧ ∀ k' : Nat, k < k' → (k' : Int) < τ 172 4 → τ 175 (548 * k + 2) ≤ τ 175 (548 * k' + 2)) ∧ ∀ j, j < 2 → σ (pT σ k + 3) j = τ 173 (548 + j)
def IM (σ τ : Sg) : Prop := σ 0 9 = τ 172 5 ∧ (τ 172 5 = 0 ∨ τ 172 5 = 1) ∧ (τ 172 5 = 1 → WR 31 σ (τ 174))
def RD (σ τ : Sg) : Prop :=
  σ 141 1 = τ 172 16 ∧ (0 ≤ τ 172 16 ∧ τ 172 16 ≤ 400) ∧ (∀ j : Nat, (j : Int) < τ 172 16 → σ 145 j = τ 180 j ∧ 0 ≤ τ 180 j ∧ τ 180 j ≤ 255) ∧ σ 141 2 = τ 172 23 ∧ σ 141 3 = τ 172 25
def Inv (σ τ : Sg) : Prop := WR 1 σ (τ 173) ∧ PS σ τ ∧ IM σ τ ∧ RD σ τ
/-! what of it depends on what -/
def agr (a b : Nat) (w w' : Nat → Int) : Prop := ∀ j, a ≤ j → j < b → w' j = w j
theorem PS.none {σ τ : Sg} (h : σ 61 2 = 0) (h2 : τ 172 4 = 0) (h3 : 0 ≤ σ 61 1 ∧ σ 61 1 ≤ 5) : PS σ τ := ⟨by rw [h, h2], by rw [h2]; omega, h3, fun k hk => by rw [h2] at hk; omega⟩
theorem tyN_agr {k k' : Nat → Int} : ∀ (n a : Nat) (st : List Bool), (∀ j, a ≤ j → j < a + n → k' j = k j) → tyN k' a n st = tyN k a n st
  | 0, _, _, _ => rfl
  | n + 1, a, st, h => by
    unfold tyN
    rw [h a (by omega) (by omega)]
    congr 1
    funext st'
    exact tyN_agr n (a + 1) st' (fun j h1 h2 => h j (by omega) (by omega))
theorem WS.agr {W : Nat} {σ σ' : Sg} {w w' : Nat → Int} (h : WS W σ w) (h1 : agr 548 733 w w') (h2 : agr 1333 2217 w w') (hc : ∀ k, k = W + 4 ∨ (W + 16 ≤ k ∧ k < W + 30) → σ' k = σ k) (hW : σ' W 4 = σ W 4) : WS W σ' w' := by
  obtain ⟨g1, ⟨a1, a2, a3, a4, a5⟩, ⟨s1, s2, s3, s4⟩, ⟨c1, c2, c3, c4⟩, ⟨l1, l2, l3, l4, l5, l6⟩, ⟨t1, t2, t3⟩, k1⟩ := h
  have e : ∀ j, 548 ≤ j → j < 733 → w' j = w j := h1
  have e2 : ∀ j, 1333 ≤ j → j < 2217 → w' j = w j := h2
  unfold WS HR SR BR LR
  rw [hc (W + 4) (by omega), hc (W + 16) (by omega), hc (W + 17) (by omega), hc (W + 18) (by omega), hc (W + 19) (by omega), hc (W + 20) (by omega), hc (W + 22) (by omega), hc (W + 23) (by omega), hc (W + 25) (by omega), hc (W + 26) (by omega), hc (W + 28) (by omega), hc (W + 29) (by omega), hW,
    e 550 (by omega) (by omega), e 551 (by omega) (by omega), e 552 (by omega) (by omega), e 553 (by omega) (by omega), e 554 (by omega) (by omega)]
  refine ⟨fun j hj => ?_, ⟨a1, a2, a3, fun j hj => ?_, fun i hi => ?_⟩, ⟨s1, s2, s3, fun i hi => ?_⟩, ⟨c1, c2, c3, fun j hj => ?_⟩, ⟨l1, l2, l3, l4, fun i hi => ?_, fun j hj => ?_⟩, ⟨t1, t2, fun j hj => ?_⟩, fun k hk => ?_⟩
  · rw [e _ (by omega) (by omega)]; exact g1 j hj
  · rw [e _ (by omega) (by omega)]; exact a4 j hj
  · rw [e _ (by omega) (by omega), e _ (by omega) (by omega), e _ (by omega) (by omega), e _ (by omega) (by omega)]; exact a5 i hi
  · rw [e _ (by omega) (by omega), e _ (by omega) (by omega), e _ (by omega) (by omega), e _ (by omega) (by omega), e _ (by omega) (by omega)]; exact s4 i hi
  · rw [e _ (by omega) (by omega)]; exact c4 j hj
  · obtain ⟨q1, q2, q3, q4, q5, q6, q7⟩ := l5 i hi
    have r1 := e2 (1333 + i) (by omega) (by omega)
    have r2 := e2 (1349 + i) (by omega) (by omega)
    have r3 := e2 (1365 + i) (by omega) (by omega)
    have r4 := e2 (1381 + i) (by omega) (by omega)
    rw [r1, r2, r3, r4]
    refine ⟨q1, q2, q3, q4, q5, ?_, fun hlt => ?_⟩
    · rw [tyN_agr (k := fun j => w (1397 + 2 * j)) _ _ _ (fun j g1 g2 => e2 _ (by omega) (by omega))]; exact q6
    · rw [tyN_agr (k := fun j => w (1397 + 2 * j)) _ _ _ (fun j g1 g2 => e2 _ (by omega) (by omega))]; exact q7 hlt
  · rw [e2 _ (by omega) (by omega), e2 _ (by omega) (by omega)]; exact l6 j hj
  · rw [e _ (by omega) (by omega)]; exact t3 j hj
  · rw [e _ (by omega) (by omega), e _ (by omega) (by omega)]; exact k1 k hk
