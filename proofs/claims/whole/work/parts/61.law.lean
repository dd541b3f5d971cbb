/-! the law's sums: both piles do the same -/
def hold (h : Nat → Int) : List Int → Prop
  | [] => True
  | x :: r => h r.length = x ∧ hold h r
theorem hold_up {h : Nat → Int} {j : Nat} {v : Int} : ∀ {st : List Int}, st.length ≤ j → hold h st → hold (up h j v) st
  | [], _, _ => trivial
  | x :: r, hj, hh => ⟨by rw [up_n (by simp at hj; omega)]; exact hh.1, hold_up (by simp at hj; omega) hh.2⟩
theorem hold_push {h : Nat → Int} {v : Int} {st : List Int} (hh : hold h st) : hold (up h st.length v) (v :: st) := ⟨up_a, hold_up (Nat.le_refl _) hh⟩
def typ : List Bool → List Int → Prop
  | [], [] => True
  | b :: k, x :: s => (b = true → x = 0 ∨ x = 1) ∧ typ k s
  | _, _ => False
theorem typ_len : ∀ {k : List Bool} {s : List Int}, typ k s → s.length = k.length
  | [], [], _ => rfl
  | b :: k, x :: s, h => by simp [typ_len h.2]
  | [], _ :: _, h => h.elim
  | _ :: _, [], h => h.elim
theorem typ_cons {b : Bool} {k : List Bool} {s : List Int} (h : typ (b :: k) s) : ∃ x r, s = x :: r ∧ (b = true → x = 0 ∨ x = 1) ∧ typ k r := by
  match s, h with
  | x :: r, h => exact ⟨x, r, rfl, h.1, h.2⟩
def bth (s x y : Int) : Int := if s = 23 then wr (x + y) else if s = 24 then wr (x - y) else if s = 25 then wr (x * y) else if s = 27 then (if x < y then 1 else 0) else if s = 28 then (if x = y then 1 else 0) else if s = 29 then (if y < x then 1 else 0) else if s = 31 then bAnd x y else bOr x y
def evS (s v : Int) (F : Nat → Int) (st : List Int) : List Int :=
  if s = 0 then v :: st else if s ≤ 10 then F s.toNat :: st
  else if s = 26 then (match st with | x :: r => wr (Int.tdiv x v) :: r | [] => [])
  else if s = 30 then (match st with | x :: r => wr (1 - x) :: r | [] => [])
  else (match st with | y :: x :: r => bth s x y :: r | _ => [])
def evN (k v : Nat → Int) (F : Nat → Int) : Nat → Nat → List Int → List Int
  | _, 0, st => st
  | a, n + 1, st => evN k v F (a + 1) n (evS (k a) (v a) F st)
theorem tyS_cases {s : Int} {kl kl' : List Bool} (h : tyS s kl = some kl') : ((0 ≤ s ∧ s ≤ 10) ∧ kl.length < 60 ∧ kl' = false :: kl) ∨ (s = 26 ∧ ∃ r, kl = false :: r ∧ kl' = false :: r) ∨ (s = 30 ∧ ∃ r, kl = true :: r ∧ kl' = true :: r) ∨
    ((23 ≤ s ∧ s ≤ 25) ∧ ∃ r, kl = false :: false :: r ∧ kl' = false :: r) ∨ ((27 ≤ s ∧ s ≤ 29) ∧ ∃ r, kl = false :: false :: r ∧ kl' = true :: r) ∨ ((31 ≤ s ∧ s ≤ 32) ∧ ∃ r, kl = true :: true :: r ∧ kl' = true :: r) := by
  unfold tyS at h
  by_cases c1 : 0 ≤ s ∧ s ≤ 10
  · rw [if_pos c1] at h
    by_cases c : kl.length < 60
    · rw [if_pos c] at h; cases h; exact Or.inl ⟨c1, c, rfl⟩
    · rw [if_neg c] at h; cases h
  rw [if_neg c1] at h
  by_cases c2 : s = 26
  · rw [if_pos c2] at h
    match kl, h with
    | false :: r, h => cases h; exact Or.inr (Or.inl ⟨c2, r, rfl, rfl⟩)
  rw [if_neg c2] at h
  by_cases c3 : s = 30
  · rw [if_pos c3] at h
    match kl, h with
    | true :: r, h => cases h; exact Or.inr (Or.inr (Or.inl ⟨c3, r, rfl, rfl⟩))
  rw [if_neg c3] at h
  by_cases c4 : 23 ≤ s ∧ s ≤ 25
  · rw [if_pos c4] at h
    match kl, h with
    | false :: false :: r, h => cases h; exact Or.inr (Or.inr (Or.inr (Or.inl ⟨c4, r, rfl, rfl⟩)))
  rw [if_neg c4] at h
  by_cases c5 : 27 ≤ s ∧ s ≤ 29
  · rw [if_pos c5] at h
    match kl, h with
    | false :: false :: r, h => cases h; exact Or.inr (Or.inr (Or.inr (Or.inr (Or.inl ⟨c5, r, rfl, rfl⟩))))
  rw [if_neg c5] at h
  by_cases c6 : 31 ≤ s ∧ s ≤ 32
  · rw [if_pos c6] at h
    match kl, h with
    | true :: true :: r, h => cases h; exact Or.inr (Or.inr (Or.inr (Or.inr (Or.inr ⟨c6, r, rfl, rfl⟩))))
  rw [if_neg c6] at h; cases h
/-- a step keeps the kinds -/
theorem ev_typ {s v : Int} {F : Nat → Int} {kl kl' : List Bool} {st : List Int} (h : tyS s kl = some kl') (ht : typ kl st) : typ kl' (evS s v F st) := by
  rcases tyS_cases h with ⟨c, -, rfl⟩ | ⟨c, r, rfl, rfl⟩ | ⟨c, r, rfl, rfl⟩ | ⟨c, r, rfl, rfl⟩ | ⟨c, r, rfl, rfl⟩ | ⟨c, r, rfl, rfl⟩
  · unfold evS
    by_cases c0 : s = 0
    · rw [if_pos c0]; exact ⟨fun z => (by cases z), ht⟩
    · rw [if_neg c0, if_pos c.2]; exact ⟨fun z => (by cases z), ht⟩
  · obtain ⟨x, r', rfl, -, h2⟩ := typ_cons ht
    unfold evS; rw [if_neg (by omega), if_neg (by omega), if_pos c]; exact ⟨fun z => (by cases z), h2⟩
  · obtain ⟨x, r', rfl, h1, h2⟩ := typ_cons ht
    unfold evS; rw [if_neg (by omega), if_neg (by omega), if_neg (by omega), if_pos c]
    refine ⟨fun _ => ?_, h2⟩
    rcases h1 rfl with e | e <;> rw [e] <;> decide
  · obtain ⟨y, r', rfl, -, h2⟩ := typ_cons ht
    obtain ⟨x, r'', rfl, -, h3⟩ := typ_cons h2
    unfold evS; rw [if_neg (by omega), if_neg (by omega), if_neg (by omega), if_neg (by omega)]; exact ⟨fun z => (by cases z), h3⟩
  · obtain ⟨y, r', rfl, -, h2⟩ := typ_cons ht
    obtain ⟨x, r'', rfl, -, h3⟩ := typ_cons h2
    unfold evS; rw [if_neg (by omega), if_neg (by omega), if_neg (by omega), if_neg (by omega)]
    refine ⟨fun _ => ?_, h3⟩
    unfold bth
    rw [if_neg (by omega), if_neg (by omega), if_neg (by omega)]
    split
    · split <;> simp
    · split
      · split <;> simp
      · rw [if_pos (by omega)]; split <;> simp
  · obtain ⟨y, r', rfl, hy, h2⟩ := typ_cons ht
    obtain ⟨x, r'', rfl, hx, h3⟩ := typ_cons h2
    unfold evS; rw [if_neg (by omega), if_neg (by omega), if_neg (by omega), if_neg (by omega)]
    refine ⟨fun _ => ?_, h3⟩
    unfold bth
    rw [if_neg (by omega), if_neg (by omega), if_neg (by omega), if_neg (by omega), if_neg (by omega), if_neg (by omega)]
    rcases hx rfl with ex | ex <;> rcases hy rfl with ey | ey <;> subst ex <;> subst ey <;> (split <;> decide)
theorem both_q {s x y : Int} (h : (23 ≤ s ∧ s ≤ 25) ∨ (27 ≤ s ∧ s ≤ 29) ∨ (31 ≤ s ∧ s ≤ 32)) : Mo_both s x y = some (bth s x y) := by
  unfold Mo_both bth
  by_cases c : s = 23
  · rw [if_pos c, if_pos c]
  rw [if_neg c, if_neg c]
  by_cases c : s = 24
  · rw [if_pos c, if_pos c]
  rw [if_neg c, if_neg c]
  by_cases c : s = 25
  · rw [if_pos c, if_pos c]
  rw [if_neg c, if_neg c, if_neg (by omega)]
  by_cases c : s = 27
  · rw [if_pos c, if_pos c]; split <;> rfl
  rw [if_neg c, if_neg c]
  by_cases c : s = 28
  · rw [if_pos c, if_pos c]; split <;> rfl
  rw [if_neg c, if_neg c]
  by_cases c : s = 29
  · rw [if_pos c, if_pos c]; split <;> rfl
  rw [if_neg c, if_neg c, if_neg (by omega)]
  split <;> rfl
theorem join_q {s x y : Int} (h : (23 ≤ s ∧ s ≤ 25) ∨ (27 ≤ s ∧ s ≤ 29) ∨ (31 ≤ s ∧ s ≤ 32)) {k : Int} (hk : k = if s ≤ 25 then s - 19 else if s ≤ 29 then s - 20 else s - 21) : Ju_join k x y = some (bth s x y) := by
  subst hk
  have hc : s = 23 ∨ s = 24 ∨ s = 25 ∨ s = 27 ∨ s = 28 ∨ s = 29 ∨ s = 31 ∨ s = 32 := by omega
  rcases hc with rfl | rfl | rfl | rfl | rfl | rfl | rfl | rfl <;> unfold Ju_join bth <;> simp <;> (try split) <;> rfl
section LawM
variable {τ : Sg}
/-- what is asked of the steps from a on, n of them -/
def okSt (k v : Nat → Int) (a n : Nat) : Prop := a + n ≤ 410 ∧ ∀ j, a ≤ j → j < a + n → k j = 26 → 1 ≤ v j
theorem comesM : ∀ (n i : Nat) (st : List Int) (kl fin : List Bool) (τ' : Sg), okSt (fun j => τ 173 (1397 + 2 * j)) (fun j => τ 173 (1398 + 2 * j)) i n → hold (τ' 181) st → typ kl st → kl.length ≤ 60 → tyN (fun j => τ 173 (1397 + 2 * j)) i n kl = some fin → (∀ k, k ≠ 181 → τ' k = τ k) →
    ∃ τ'', Mo_comesTo_6_w ((i : Int) + n) 0 (st.length : Int) (i : Int) τ' = some (τ'' 181 0, τ'') ∧ hold (τ'' 181) (evN (fun j => τ 173 (1397 + 2 * j)) (fun j => τ 173 (1398 + 2 * j)) (τ 182) i n st) ∧ typ fin (evN (fun j => τ 173 (1397 + 2 * j)) (fun j => τ 173 (1398 + 2 * j)) (τ 182) i n st) ∧ ∀ k, k ≠ 181 → τ'' k = τ k
  | 0, i, st, kl, fin, τ', hok, hh, ht, hl, hty, he => by
    cases hty
    refine ⟨τ', wl_end ?_, hh, ht, he⟩
    unfold Mo_comesTo_6_b
    dsimp only
    rw [if_neg (by omega)]
  | n + 1, i, st, kl, fin, τ', hok, hh, ht, hl, hty, he => by
    unfold tyN at hty
    obtain ⟨kl', h1, h2⟩ := Option.bind_eq_some_iff.mp hty
    try dsimp only at h1 h2
    have hlen := typ_len ht
    have hok2 : okSt (fun j => τ 173 (1397 + 2 * j)) (fun j => τ 173 (1398 + 2 * j)) (i + 1) n := ⟨by have := hok.1; omega, fun j a b => hok.2 j (by omega) (by omega)⟩
    have hb := hok.1
    have hty' := ev_typ (v := τ 173 (1398 + 2 * i)) (F := τ 182) h1 ht
    have hl' : kl'.length ≤ 60 := by
      rcases tyS_cases h1 with ⟨-, c, rfl⟩ | ⟨-, r, rfl, rfl⟩ | ⟨-, r, rfl, rfl⟩ | ⟨-, r, rfl, rfl⟩ | ⟨-, r, rfl, rfl⟩ | ⟨-, r, rfl, rfl⟩ <;> simp at hl ⊢ <;> omega
    -- one turn: the pile holds what the step makes
    have turn : ∃ τ1, Mo_comesTo_6_b ((i : Int) + ((n + 1 : Nat) : Int)) 0 (st.length : Int) (i : Int) τ' = some (.inl (((evS (τ 173 (1397 + 2 * i)) (τ 173 (1398 + 2 * i)) (τ 182) st).length : Int), (i : Int) + 1, τ1)) ∧ hold (τ1 181) (evS (τ 173 (1397 + 2 * i)) (τ 173 (1398 + 2 * i)) (τ 182) st) ∧ ∀ k, k ≠ 181 → τ1 k = τ k := by
      have e1 : (1397 + 820 * (0 : Int) + 2 * (i : Int)).toNat = 1397 + 2 * i := by omega
      have e2 : (1397 + 820 * (0 : Int) + 2 * (i : Int) + 1).toNat = 1398 + 2 * i := by omega
      unfold Mo_comesTo_6_b
      rw [if_pos (by omega), ix_q (by omega) (by omega), ll_q, ix_q (by omega) (by omega), ll_q, e1, e2, he 173 (by decide), he 182 (by decide)]
      have oth : ∀ (j : Nat) (x : Int) (k : Nat), k ≠ 181 → su τ' 181 j x k = τ k := fun j x k hk => by rw [su_c hk]; exact he k hk
      generalize hs : τ 173 (1397 + 2 * i) = s at h1 ⊢
      generalize hv : τ 173 (1398 + 2 * i) = v
      rcases tyS_cases h1 with ⟨c, cl, rfl⟩ | ⟨c, r, rfl, rfl⟩ | ⟨c, r, rfl, rfl⟩ | ⟨c, r, rfl, rfl⟩ | ⟨c, r, rfl, rfl⟩ | ⟨c, r, rfl, rfl⟩
      · rw [if_pos (by omega)]
        unfold evS
        by_cases c0 : s = 0
        · rw [if_pos c0, if_pos c0, ix_q (by omega) (by omega), ll_q, ll_q, ll_q, wr_q (by omega) (by omega), wr_q (by omega) (by omega), Int.toNat_natCast]
          exact ⟨su τ' 181 st.length v, by simp, by rw [su_s]; exact hold_push hh, oth _ _⟩
        · rw [if_neg c0, if_neg c0, if_pos c.2, ix_q (by omega) (by omega), ix_q (by omega) (by omega), ll_q, ll_q, ll_q, wr_q (by omega) (by omega), wr_q (by omega) (by omega), Int.toNat_natCast]
          exact ⟨su τ' 181 st.length (τ 182 s.toNat), by simp, by rw [su_s]; exact hold_push hh, oth _ _⟩
      · obtain ⟨x, r', rfl, -, -⟩ := typ_cons ht
        have h1v : 1 ≤ v := by rw [← hv]; exact hok.2 i (by omega) (by omega) (by dsimp only; rw [hs]; exact c)
        have hr : r'.length < 60 := by simp at hl hlen; omega
        have ex : (((r'.length + 1 : Nat) : Int) - 1).toNat = r'.length := by omega
        unfold evS
        rw [List.length_cons, if_neg (by omega), if_pos c, ix_q (by omega) (by omega), nzd_q (by omega), ix_q (by omega) (by omega), ll_q, ll_q, wr_q (n := (i : Int) + 1) (by omega) (by omega), ex, hh.1, if_neg (by omega), if_neg (by omega), if_pos c]
        exact ⟨su τ' 181 r'.length (wr (Int.tdiv x v)), by simp, by rw [su_s]; exact hold_push hh.2, oth _ _⟩
      · obtain ⟨x, r', rfl, -, -⟩ := typ_cons ht
        have hr : r'.length < 60 := by simp at hl hlen; omega
        have ex : (((r'.length + 1 : Nat) : Int) - 1).toNat = r'.length := by omega
        unfold evS
        rw [List.length_cons, if_neg (by omega), if_neg (by omega), if_pos c, ix_q (by omega) (by omega), ix_q (by omega) (by omega), ll_q, ll_q, wr_q (n := (i : Int) + 1) (by omega) (by omega), ex, hh.1, if_neg (by omega), if_neg (by omega), if_neg (by omega), if_pos c]
        exact ⟨su τ' 181 r'.length (wr (1 - x)), by simp, by rw [su_s]; exact hold_push hh.2, oth _ _⟩
      all_goals
        obtain ⟨y, r', rfl, -, ht2⟩ := typ_cons ht
        obtain ⟨x, r'', rfl, -, -⟩ := typ_cons ht2
        have hr : r''.length < 59 := by simp at hl hlen; omega
        have e31 : wr (((r''.length + 1 + 1 : Nat) : Int) + -1) = ((r''.length + 1 : Nat) : Int) := by rw [wr_q (by omega) (by omega)]; omega
        have ex : (((r''.length + 1 : Nat) : Int) - 1).toNat = r''.length := by omega
        have ey : τ' 181 (r''.length + 1) = y := hh.1
        unfold evS
        rw [List.length_cons, List.length_cons, if_neg (by omega), if_neg (by omega), if_neg (by omega), e31, ll_q, ix_q (by omega) (by omega), ix_q (by omega) (by omega), ex, Int.toNat_natCast, hh.2.1, ey, both_q (by omega), b1_q, ix_q (by omega) (by omega), ll_q, ll_q, wr_q (n := (i : Int) + 1) (by omega) (by omega), if_neg (by omega), if_neg (by omega), if_neg (by omega), if_neg (by omega)]
        exact ⟨su τ' 181 r''.length (bth s x y), by simp, by rw [su_s]; exact hold_push hh.2.2, oth _ _⟩
    obtain ⟨τ1, t1, t2, t3⟩ := turn
    obtain ⟨τ2, g1, g2, g3, g4⟩ := comesM n (i + 1) _ kl' fin τ1 hok2 t2 hty' hl' h2 t3
    refine ⟨τ2, ?_, g2, g3, g4⟩
    rw [← g1]
    have e : Mo_comesTo_6_w ((i : Int) + ((n + 1 : Nat) : Int)) 0 (st.length : Int) (i : Int) τ' = Mo_comesTo_6_w ((i : Int) + ((n + 1 : Nat) : Int)) 0 ((evS (τ 173 (1397 + 2 * i)) (τ 173 (1398 + 2 * i)) (τ 182) st).length : Int) ((i : Int) + 1) τ1 := wl_go t1
    rw [e, show (i : Int) + ((n + 1 : Nat) : Int) = ((i + 1 : Nat) : Int) + (n : Int) by omega, show (i : Int) + 1 = ((i + 1 : Nat) : Int) by omega]
end LawM
