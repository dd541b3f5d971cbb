/-! text: tokens, and how the reference takes the next one -/
def isL (x : Int) : Prop := (97 ≤ x ∧ x ≤ 122) ∨ (65 ≤ x ∧ x ≤ 90)
def isD (x : Int) : Prop := 48 ≤ x ∧ x ≤ 57
def isG (x : Int) : Prop := x = 59 ∨ x = 43 ∨ x = 45 ∨ x = 42 ∨ x = 47 ∨ x = 40 ∨ x = 41 ∨ x = 60 ∨ x = 61 ∨ x = 62
def skF (c : Nat → Int) : Nat → Nat → Nat
  | 0, p => p
  | m + 1, p => if c p = 32 ∨ c p = 10 then skF c m (p + 1) else p
def leF (c : Nat → Int) : Nat → Nat → Nat
  | 0, p => p
  | m + 1, p => if (97 ≤ c p ∧ c p ≤ 122) ∨ (65 ≤ c p ∧ c p ≤ 90) then leF c m (p + 1) else p
def dgF (c : Nat → Int) : Nat → Nat → Nat
  | 0, p => p
  | m + 1, p => if 48 ≤ c p ∧ c p ≤ 57 then dgF c m (p + 1) else p
def dvF (c : Nat → Int) (s : Nat) : Nat → Nat → Int → Int
  | 0, _, v => v
  | m + 1, p, v => if 48 ≤ c p ∧ c p ≤ 57 then dvF c s m (p + 1) (if p < s + 4 then 10 * v + c p - 48 else v) else v
def TKN (c : Nat → Int) (n k p : Nat) (kd vl : Int) (pl en : Nat) : Prop :=
  pl = skF c (n - p) p ∧
  ((pl = n ∧ kd = 0 ∧ vl = 0 ∧ en = n) ∨
   (pl < n ∧ isL (c pl) ∧ en = leF c (n - pl) pl ∧ vl = wxL (wids k) (seg c pl (en - pl)) 0 ∧ kd = (if vl = -1 then 4 else 1)) ∨
   (pl < n ∧ ¬ isL (c pl) ∧ isD (c pl) ∧ en = dgF c (n - pl) pl ∧ vl = dvF c pl (n - pl) pl 0 ∧ kd = (if 4 < en - pl then 4 else 2)) ∨
   (pl < n ∧ ¬ isL (c pl) ∧ ¬ isD (c pl) ∧ en = pl + 1 ∧ vl = c pl ∧ kd = 3))
def sgF (x : Int) : Int := if x = 59 ∨ x = 43 ∨ x = 45 ∨ x = 42 ∨ x = 47 ∨ x = 40 ∨ x = 41 ∨ x = 60 ∨ x = 61 ∨ x = 62 then 100 + x else 1
def tkc (k : Nat) (kd vl : Int) : Int := if kd = 0 then 0 else if kd = 1 then tkW k vl else if kd = 2 then 2 else if kd = 3 then sgF vl else 1
section Lexer
theorem TKN_u {c : Nat → Int} {n k p : Nat} {kd vl kd' vl' : Int} {pl en pl' en' : Nat} (h : TKN c n k p kd vl pl en) (h' : TKN c n k p kd' vl' pl' en') : kd = kd' ∧ vl = vl' ∧ pl = pl' ∧ en = en' := by
  obtain ⟨h1, h2⟩ := h
  obtain ⟨g1, g2⟩ := h'
  have e : pl = pl' := by rw [h1, g1]
  subst e
  rcases h2 with ⟨a1, a2, a3, a4⟩ | ⟨a1, a2, a3, a4, a5⟩ | ⟨a1, a2, a3, a4, a5, a6⟩ | ⟨a1, a2, a3, a4, a5, a6⟩ <;> rcases g2 with ⟨b1, b2, b3, b4⟩ | ⟨b1, b2, b3, b4, b5⟩ | ⟨b1, b2, b3, b4, b5, b6⟩ | ⟨b1, b2, b3, b4, b5, b6⟩
  · exact ⟨by omega, by omega, rfl, by omega⟩
  · omega
  · omega
  · omega
  · omega
  · have e1 : en = en' := by rw [a3, b3]
    subst e1
    have e2 : vl = vl' := by rw [a4, b4]
    subst e2
    exact ⟨by rw [a5, b5], rfl, rfl, rfl⟩
  · exact absurd a2 b2
  · exact absurd a2 b2
  · omega
  · exact absurd b2 a2
  · have e1 : en = en' := by rw [a4, b4]
    subst e1
    exact ⟨by rw [a6, b6], by rw [a5, b5], rfl, rfl⟩
  · exact absurd a3 b3
  · omega
  · exact absurd b2 a2
  · exact absurd b3 a3
  · exact ⟨by rw [a6, b6], by rw [a5, b5], rfl, by rw [a4, b4]⟩
theorem skF_in {c : Nat → Int} : ∀ m p, p ≤ skF c m p ∧ skF c m p ≤ p + m
  | 0, p => ⟨Nat.le_refl _, Nat.le_refl _⟩
  | m + 1, p => by
    have := skF_in (c := c) m (p + 1)
    unfold skF; split <;> omega
theorem leF_in {c : Nat → Int} : ∀ m p, p ≤ leF c m p ∧ leF c m p ≤ p + m
  | 0, p => ⟨Nat.le_refl _, Nat.le_refl _⟩
  | m + 1, p => by
    have := leF_in (c := c) m (p + 1)
    unfold leF; split <;> omega
theorem dgF_in {c : Nat → Int} : ∀ m p, p ≤ dgF c m p ∧ dgF c m p ≤ p + m
  | 0, p => ⟨Nat.le_refl _, Nat.le_refl _⟩
  | m + 1, p => by
    have := dgF_in (c := c) m (p + 1)
    unfold dgF; split <;> omega
theorem skF_no {c : Nat → Int} : ∀ m p, skF c m p < p + m → ¬ (c (skF c m p) = 32 ∨ c (skF c m p) = 10)
  | 0, p, h => by unfold skF at h; omega
  | m + 1, p, h => by
    unfold skF at h ⊢
    by_cases z : c p = 32 ∨ c p = 10
    · rw [if_pos z] at h ⊢
      exact skF_no m (p + 1) (by omega)
    · rw [if_neg z]; exact z
theorem TKN_en {c : Nat → Int} {n k p : Nat} {kd vl : Int} {pl en : Nat} (h : TKN c n k p kd vl pl en) (hp : p ≤ n) : p ≤ pl ∧ pl ≤ en ∧ en ≤ n ∧ (kd ≠ 0 → pl < en) := by
  obtain ⟨h1, h2⟩ := h
  have s := skF_in (c := c) (n - p) p
  rcases h2 with ⟨a1, a2, a3, a4⟩ | ⟨a1, a2, a3, a4, a5⟩ | ⟨a1, a2, a3, a4, a5, a6⟩ | ⟨a1, a2, a3, a4, a5, a6⟩
  · exact ⟨by omega, by omega, by omega, fun z => absurd a2 z⟩
  · have l := leF_in (c := c) (n - pl) pl
    have : pl < leF c (n - pl) pl := by
      rw [show n - pl = (n - pl - 1) + 1 by omega]
      unfold leF
      rw [if_pos (show (97 ≤ c pl ∧ c pl ≤ 122) ∨ (65 ≤ c pl ∧ c pl ≤ 90) from a2)]
      have := leF_in (c := c) (n - pl - 1) (pl + 1)
      omega
    exact ⟨by omega, by omega, by omega, fun _ => by omega⟩
  · have l := dgF_in (c := c) (n - pl) pl
    have : pl < dgF c (n - pl) pl := by
      rw [show n - pl = (n - pl - 1) + 1 by omega]
      unfold dgF
      rw [if_pos (show 48 ≤ c pl ∧ c pl ≤ 57 from a3)]
      have := dgF_in (c := c) (n - pl - 1) (pl + 1)
      omega
    exact ⟨by omega, by omega, by omega, fun _ => by omega⟩
  · exact ⟨by omega, by omega, by omega, fun _ => by omega⟩
variable {τ : Sg}
theorem su_o {τ : Sg} {k j : Nat} {v v' : Int} : su (su τ k j v) k j v' = su τ k j v' := by
  funext a b
  unfold su
  by_cases e : a = k ∧ b = j
  · rw [if_pos e, if_pos e]
  · rw [if_neg e, if_neg e, if_neg e]
def okT (n : Nat) (τ : Sg) : Prop := τ 172 16 = n ∧ n ≤ 400 ∧ ∀ j : Nat, j < n → 0 ≤ τ 180 j ∧ τ 180 j ≤ 255
theorem okT_su {n : Nat} (h : okT n τ) {j : Nat} {v : Int} (hj : j ≠ 16) : okT n (su τ 172 j v) := ⟨by rw [su_s, up_n (by omega)]; exact h.1, h.2.1, by rw [su_c (by decide)]; exact h.2.2⟩
theorem seeQ {n p : Nat} (h : okT n τ) (hp : p ≤ n) : Mo_see (p : Int) τ = some (if p < n then τ 180 p else -1) := by
  unfold Mo_see
  rw [h.1]
  have := h.2.1
  by_cases z : p < n
  · rw [if_pos (by omega), if_pos z, ix_q (by omega) (by omega), Int.toNat_natCast]
  · rw [if_neg (by omega), if_neg z]
theorem ltM_q (x : Int) : Mo_isLetter x = some (if (97 ≤ x ∧ x ≤ 122) ∨ (65 ≤ x ∧ x ≤ 90) then 1 else 0) := by
  unfold Mo_isLetter
  rw [isIn_q, b1_q]
  by_cases a : 97 ≤ x ∧ x ≤ 122
  · rw [if_pos a, if_neg (by decide), if_pos (.inl a)]
  · rw [if_neg a, if_pos rfl, isIn_q, b1_q]
    by_cases b : 65 ≤ x ∧ x ≤ 90
    · rw [if_pos b, if_neg (by decide), if_pos (.inr b)]
    · rw [if_neg b, if_pos rfl, if_neg (by omega)]
theorem dgM_q (x : Int) : Mo_isDigit x = some (if 48 ≤ x ∧ x ≤ 57 then 1 else 0) := by
  unfold Mo_isDigit
  rw [isIn_q, b1_q]
/-- spaces -/
theorem nx0 {n : Nat} : ∀ (m p : Nat) (τ : Sg), p + m = n → okT n τ → τ 172 17 = p → Mo_next0_0_w τ = Mo_next0_0_w (su τ 172 17 (skF (τ 180) m p))
  | 0, p, τ, hp, h, h17 => by
    show _ = Mo_next0_0_w (su τ 172 17 ((p : Nat) : Int))
    rw [su_id h17]
  | m + 1, p, τ, hp, h, h17 => by
    have b := h.2.1
    unfold skF
    by_cases z : τ 180 p = 32 ∨ τ 180 p = 10
    · rw [if_pos z]
      have ih := nx0 m (p + 1) (su τ 172 17 ((p + 1 : Nat) : Int)) (by omega) (okT_su h (by decide)) (by rw [su_s, up_a])
      rw [su_o, su_c (by decide)] at ih
      refine (wl_go ?_).trans ih
      show Mo_next0_0_b τ = _
      unfold Mo_next0_0_b
      rw [h17, seeQ h (by omega), b1_q, if_pos (show p < n by omega), wr_q (by omega) (by omega)]
      rcases z with z | z
      · rw [if_pos z, ll_q]
        rfl
      · by_cases y : τ 180 p = 32
        · rw [if_pos y, ll_q]
          rfl
        · rw [if_neg y, b1_q, if_pos z, ll_q]
          rfl
    · rw [if_neg z, su_id h17]
/-- letters -/
theorem nx76 {n k s : Nat} (hk : k < 4) : ∀ (m p : Nat) (τ : Sg), p + m = n → s ≤ p → okT n τ → τ 172 12 = k → τ 172 17 = p → τ 172 19 = s → Mo_next0_76_w τ = some (.inr (su (su τ 172 17 (leF (τ 180) m p)) 172 18 (tkW k (wxL (wids k) (seg (τ 180) s (leF (τ 180) m p - s)) 0))))
  | m, p, τ, hp, hs, h, h12, h17, h19 => by
    have b := h.2.1
    have stop : ¬ (p < n ∧ ((97 ≤ τ 180 p ∧ τ 180 p ≤ 122) ∨ (65 ≤ τ 180 p ∧ τ 180 p ≤ 90))) → Mo_next0_76_w τ = some (.inr (su (su τ 172 17 (p : Int)) 172 18 (tkW k (wxL (wids k) (seg (τ 180) s (p - s)) 0)))) := fun z => by
      refine wl_end ?_
      show Mo_next0_76_b τ = _
      unfold Mo_next0_76_b
      rw [h17, seeQ h (by omega), b1_q, ltM_q, b1_q, if_neg (c := (97 ≤ (if p < n then τ 180 p else -1) ∧ (if p < n then τ 180 p else -1) ≤ 122) ∨ (65 ≤ (if p < n then τ 180 p else -1) ∧ (if p < n then τ 180 p else -1) ≤ 90)) (by
        by_cases y : p < n
        · rw [if_pos y]; exact fun x => z ⟨y, x⟩
        · rw [if_neg y]; omega), if_pos rfl, wordQ hk h12 h17 h19 hs (by omega), b1_q, ll_q, su_id h17]
    match m, hp with
    | 0, hp => exact stop (by omega)
    | m + 1, hp =>
      unfold leF
      by_cases z : (97 ≤ τ 180 p ∧ τ 180 p ≤ 122) ∨ (65 ≤ τ 180 p ∧ τ 180 p ≤ 90)
      · rw [if_pos z]
        have ih := nx76 (s := s) hk m (p + 1) (su τ 172 17 ((p + 1 : Nat) : Int)) (by omega) (by omega) (okT_su h (by decide)) (by rw [su_s, up_n (by decide)]; exact h12) (by rw [su_s, up_a]) (by rw [su_s, up_n (by decide)]; exact h19)
        rw [su_o, su_c (by decide)] at ih
        refine (wl_go ?_).trans ih
        show Mo_next0_76_b τ = _
        unfold Mo_next0_76_b
        rw [h17, seeQ h (by omega), b1_q, ltM_q, b1_q, if_pos (show p < n by omega), if_pos z, if_neg (by decide), wr_q (by omega) (by omega), ll_q]
        rfl
      · rw [if_neg z]; exact stop (fun y => z y.2)
def pwF (t : Nat) : Int := if t = 0 then 1 else if t = 1 then 10 else if t = 2 then 100 else if t = 3 then 1000 else 10000
theorem pwF_s {t : Nat} (h : t < 4) : pwF (t + 1) = 10 * pwF t := by
  have : t = 0 ∨ t = 1 ∨ t = 2 ∨ t = 3 := by omega
  rcases this with z | z | z | z <;> subst z <;> decide
theorem pwF_b {t : Nat} (h : 4 ≤ t) : pwF t = 10000 := by
  unfold pwF
  rw [if_neg (by omega), if_neg (by omega), if_neg (by omega), if_neg (by omega)]
theorem pwF_in (t : Nat) : 1 ≤ pwF t ∧ pwF t ≤ 10000 := by
  unfold pwF
  repeat' split
  all_goals omega
theorem dv_step {x v : Int} {s p : Nat} (hs : s ≤ p) (hx : 48 ≤ x ∧ x ≤ 57) (hv : 0 ≤ v ∧ v < pwF (p - s)) : 0 ≤ (if p < s + 4 then 10 * v + x - 48 else v) ∧ (if p < s + 4 then 10 * v + x - 48 else v) < pwF (p + 1 - s) := by
  by_cases z : p < s + 4
  · rw [if_pos z]
    have := pwF_s (t := p - s) (by omega)
    rw [show p + 1 - s = (p - s) + 1 by omega]
    omega
  · rw [if_neg z]
    have h1 := pwF_b (t := p - s) (by omega)
    have h2 := pwF_b (t := p + 1 - s) (by omega)
    omega
/-- digits -/
theorem nx126 {n s : Nat} : ∀ (m p : Nat) (v : Int) (τ : Sg), p + m = n → s ≤ p → okT n τ → τ 172 17 = p → τ 172 19 = s → τ 172 20 = v → (0 ≤ v ∧ v < pwF (p - s)) → Mo_next0_126_w τ = some (.inr (su (su (su τ 172 20 (dvF (τ 180) s m p v)) 172 17 (dgF (τ 180) m p)) 172 18 (if 4 < dgF (τ 180) m p - s then 1 else 2)))
  | m, p, v, τ, hp, hs, h, h17, h19, h20, hv => by
    have b := h.2.1
    have pw := pwF_in (p - s)
    have stop : ¬ (p < n ∧ (48 ≤ τ 180 p ∧ τ 180 p ≤ 57)) → Mo_next0_126_w τ = some (.inr (su (su (su τ 172 20 v) 172 17 (p : Int)) 172 18 (if 4 < p - s then 1 else 2))) := fun z => by
      refine wl_end ?_
      show Mo_next0_126_b τ = _
      unfold Mo_next0_126_b
      rw [h17, seeQ h (by omega), b1_q, dgM_q, b1_q, if_neg (c := 48 ≤ (if p < n then τ 180 p else -1) ∧ (if p < n then τ 180 p else -1) ≤ 57) (by
        by_cases y : p < n
        · rw [if_pos y]; exact fun x => z ⟨y, x⟩
        · rw [if_neg y]; omega), if_pos rfl, h19, wr_q (by omega) (by omega), su_id h20, su_id h17]
      by_cases y : 4 < p - s
      · rw [if_neg (by omega), if_pos y, ll_q]
      · rw [if_pos (by omega), if_neg y, ll_q]
    match m, hp with
    | 0, hp => exact stop (by omega)
    | m + 1, hp =>
      unfold dgF dvF
      by_cases z : 48 ≤ τ 180 p ∧ τ 180 p ≤ 57
      · rw [if_pos z, if_pos z]
        have dv := dv_step hs z hv
        have pw' := pwF_in (p + 1 - s)
        have ih := nx126 (s := s) m (p + 1) (if p < s + 4 then 10 * v + τ 180 p - 48 else v) (su (su τ 172 20 (if p < s + 4 then 10 * v + τ 180 p - 48 else v)) 172 17 ((p + 1 : Nat) : Int)) (by omega) (by omega) (okT_su (okT_su h (by decide)) (by decide)) (by rw [su_s, up_a]) (by rw [su_s, up_n (by decide), su_s, up_n (by decide)]; exact h19) (by rw [su_s, up_n (by decide), su_s, up_a]) dv
        rw [su_c (show (180 : Nat) ≠ 172 by decide), su_c (show (180 : Nat) ≠ 172 by decide), su_x (σ := su τ 172 20 _) (k := 172) (j := 17) (k' := 172) (j' := 20) (.inr (by decide)), su_o, su_o] at ih
        refine (wl_go ?_).trans ih
        show Mo_next0_126_b τ = _
        unfold Mo_next0_126_b
        rw [h17, seeQ h (by omega), b1_q, dgM_q, b1_q, if_pos (show p < n by omega), if_pos z, if_neg (by decide), h19, wr_q (n := (s : Int) + 4) (by omega) (by omega)]
        by_cases y : p < s + 4
        · rw [if_pos y] at dv
          rw [if_pos (by omega), if_pos y, b1_q, h20, wr_q (n := 10 * v + τ 180 p - 48) (by omega) (by omega), ll_q, su_s, up_n (show (17 : Nat) ≠ 20 by decide), h17, wr_q (by omega) (by omega), ll_q]
          rfl
        · rw [if_neg (by omega), if_neg y, wr_q (by omega) (by omega), ll_q, su_id h20]
          rfl
      · rw [if_neg z, if_neg z]; exact stop (fun y => z y.2)
/-- the next token -/
theorem nxM {n k p : Nat} (hk : k < 4) (h : okT n τ) (h12 : τ 172 12 = k) (h17 : τ 172 17 = p) (hp : p ≤ n) : ∃ τ' kd vl pl en, Mo_next0 τ = some τ' ∧ TKN (τ 180) n k p kd vl pl en ∧ τ' 172 17 = (en : Nat) ∧ τ' 172 18 = tkc k kd vl ∧ τ' 172 19 = (pl : Nat) ∧ (kd = 2 → τ' 172 20 = vl) ∧ (∀ j, j ≠ 17 → j ≠ 18 → j ≠ 19 → j ≠ 20 → τ' 172 j = τ 172 j) ∧ ∀ c, c ≠ 172 → τ' c = τ c := by
  have b := h.2.1
  obtain ⟨pl, hpl⟩ : ∃ x, x = skF (τ 180) (n - p) p := ⟨_, rfl⟩
  have s := skF_in (c := τ 180) (n - p) p
  have hsk : Mo_next0 τ = Mo_next0_0_w (su τ 172 17 (pl : Int)) := by
    rw [hpl]; exact nx0 (n - p) p τ (by omega) h h17
  have h1 := okT_su h (j := 17) (v := (pl : Int)) (by decide)
  have k17 : su τ 172 17 (pl : Int) 172 17 = (pl : Int) := by rw [su_s, up_a]
  have e180 : su τ 172 17 (pl : Int) 180 = τ 180 := su_c (by decide)
  have h2 := okT_su h1 (j := 19) (v := (pl : Int)) (by decide)
  obtain ⟨τ2, e2⟩ : ∃ x, x = su (su τ 172 17 (pl : Int)) 172 19 (pl : Int) := ⟨_, rfl⟩
  rw [← e2] at h2
  have q17 : τ2 172 17 = (pl : Int) := by rw [e2, su_s, up_n (by decide)]; exact k17
  have q19 : τ2 172 19 = (pl : Int) := by rw [e2, su_s, up_a]
  have q12 : τ2 172 12 = (k : Int) := by rw [e2, su_s, up_n (by decide), su_s, up_n (by decide)]; exact h12
  have q180 : τ2 180 = τ 180 := by rw [e2, su_c (by decide), su_c (by decide)]
  have qj : ∀ j, j ≠ 17 → j ≠ 19 → τ2 172 j = τ 172 j := fun j a b => by rw [e2, su_s, up_n b, su_s, up_n a]
  have qc : ∀ c, c ≠ 172 → τ2 c = τ c := fun c a => by rw [e2, su_c a, su_c a]
  by_cases z : pl < n
  · have hns := skF_no (c := τ 180) (n - p) p (by omega)
    rw [← hpl] at hns
    have hx := h.2.2 pl z
    have body : Mo_next0_0_b (su τ 172 17 (pl : Int)) = (if (97 ≤ τ 180 pl ∧ τ 180 pl ≤ 122) ∨ (65 ≤ τ 180 pl ∧ τ 180 pl ≤ 90) then Mo_next0_76_w τ2 else if 48 ≤ τ 180 pl ∧ τ 180 pl ≤ 57 then Mo_next0_126_w (su τ2 172 20 0) else some (.inr (su (su τ2 172 17 ((pl : Int) + 1)) 172 18 (sgF (τ 180 pl))))) := by
      unfold Mo_next0_0_b
      rw [k17, seeQ h1 (by omega), b1_q, if_pos z, e180, if_neg (fun y => hns (.inl y)), b1_q, if_neg (fun y => hns (.inr y)), ll_q, ← e2, q17, seeQ h2 (by omega), b1_q, if_pos z, q180, if_neg (by omega), ltM_q, b1_q]
      by_cases y : (97 ≤ τ 180 pl ∧ τ 180 pl ≤ 122) ∨ (65 ≤ τ 180 pl ∧ τ 180 pl ≤ 90)
      · rw [if_pos y, if_pos y, if_neg (by decide)]
      · rw [if_neg y, if_neg y, if_pos rfl, dgM_q, b1_q]
        by_cases x : 48 ≤ τ 180 pl ∧ τ 180 pl ≤ 57
        · rw [if_pos x, if_pos x, if_neg (by decide), ll_q]
        · rw [if_neg x, if_neg x, if_pos rfl, wr_q (by omega) (by omega), ll_q]
          have t : (if τ 180 pl = 59 then some 1 else if τ 180 pl = 43 then some 1 else if τ 180 pl = 45 then some 1 else if τ 180 pl = 42 then some 1 else if τ 180 pl = 47 then some 1 else if τ 180 pl = 40 then some 1 else if τ 180 pl = 41 then some 1 else if τ 180 pl = 60 then some 1 else if τ 180 pl = 61 then some 1 else if τ 180 pl = 62 then some 1 else some 0) = some (if τ 180 pl = 59 ∨ τ 180 pl = 43 ∨ τ 180 pl = 45 ∨ τ 180 pl = 42 ∨ τ 180 pl = 47 ∨ τ 180 pl = 40 ∨ τ 180 pl = 41 ∨ τ 180 pl = 60 ∨ τ 180 pl = 61 ∨ τ 180 pl = 62 then (1 : Int) else 0) := by
            repeat' split
            all_goals first | rfl | omega
          rw [t, b1_q]
          unfold sgF
          by_cases w : τ 180 pl = 59 ∨ τ 180 pl = 43 ∨ τ 180 pl = 45 ∨ τ 180 pl = 42 ∨ τ 180 pl = 47 ∨ τ 180 pl = 40 ∨ τ 180 pl = 41 ∨ τ 180 pl = 60 ∨ τ 180 pl = 61 ∨ τ 180 pl = 62
          · rw [if_pos w, if_pos w, if_neg (by decide), if_neg (by decide), wr_q (by omega) (by omega), ll_q]
          · rw [if_neg w, if_neg w, if_pos rfl, if_pos rfl, ll_q]
    by_cases y : (97 ≤ τ 180 pl ∧ τ 180 pl ≤ 122) ∨ (65 ≤ τ 180 pl ∧ τ 180 pl ≤ 90)
    · rw [if_pos y] at body
      have r := nx76 hk (n - pl) pl τ2 (by omega) (Nat.le_refl _) h2 q12 q17 q19
      rw [q180] at r
      rw [r] at body
      obtain ⟨en, hen⟩ : ∃ x, x = leF (τ 180) (n - pl) pl := ⟨_, rfl⟩
      rw [← hen] at body
      obtain ⟨vl, hvl⟩ : ∃ x, x = wxL (wids k) (seg (τ 180) pl (en - pl)) 0 := ⟨_, rfl⟩
      rw [← hvl] at body
      refine ⟨_, if vl = -1 then 4 else 1, vl, pl, en, hsk.trans (wl_end body), ⟨hpl, .inr (.inl ⟨z, y, hen, hvl, rfl⟩)⟩, ?_, ?_, ?_, ?_, fun j a b c d => ?_, fun c a => ?_⟩
      · rw [su_s, up_n (by decide), su_s, up_a]
      · rw [su_s, up_a]
        unfold tkc
        by_cases x : vl = -1
        · rw [if_pos x, if_neg (by decide), if_neg (by decide), if_neg (by decide), if_neg (by decide)]
          unfold tkW
          rw [if_pos x]
        · rw [if_neg x, if_neg (by decide), if_pos rfl]
      · rw [su_s, up_n (by decide), su_s, up_n (by decide)]; exact q19
      · intro x
        exfalso
        by_cases w : vl = -1
        · rw [if_pos w] at x; omega
        · rw [if_neg w] at x; omega
      · rw [su_s, up_n b, su_s, up_n a]; exact qj j a c
      · rw [su_c a, su_c a]; exact qc c a
    · rw [if_neg y] at body
      by_cases x : 48 ≤ τ 180 pl ∧ τ 180 pl ≤ 57
      · rw [if_pos x] at body
        have r := nx126 (s := pl) (n - pl) pl 0 (su τ2 172 20 0) (by omega) (Nat.le_refl _) (okT_su h2 (by decide)) (by rw [su_s, up_n (by decide)]; exact q17) (by rw [su_s, up_n (by decide)]; exact q19) (by rw [su_s, up_a]) (by rw [Nat.sub_self]; decide)
        rw [su_c (show (180 : Nat) ≠ 172 by decide), q180, su_o] at r
        rw [r] at body
        obtain ⟨en, hen⟩ : ∃ x, x = dgF (τ 180) (n - pl) pl := ⟨_, rfl⟩
        rw [← hen] at body
        obtain ⟨vl, hvl⟩ : ∃ x, x = dvF (τ 180) pl (n - pl) pl 0 := ⟨_, rfl⟩
        rw [← hvl] at body
        refine ⟨_, if 4 < en - pl then 4 else 2, vl, pl, en, hsk.trans (wl_end body), ⟨hpl, .inr (.inr (.inl ⟨z, y, x, hen, hvl, rfl⟩))⟩, ?_, ?_, ?_, fun _ => ?_, fun j a b c d => ?_, fun c a => ?_⟩
        · rw [su_s, up_n (by decide), su_s, up_a]
        · rw [su_s, up_a]
          unfold tkc
          by_cases w : 4 < en - pl
          · rw [if_pos w, if_pos w, if_neg (by decide), if_neg (by decide), if_neg (by decide), if_neg (by decide)]
          · rw [if_neg w, if_neg w, if_neg (by decide), if_neg (by decide), if_pos rfl]
        · rw [su_s, up_n (by decide), su_s, up_n (by decide), su_s, up_n (by decide)]; exact q19
        · rw [su_s, up_n (by decide), su_s, up_n (by decide), su_s, up_a]
        · rw [su_s, up_n b, su_s, up_n a, su_s, up_n d]; exact qj j a c
        · rw [su_c a, su_c a, su_c a]; exact qc c a
      · rw [if_neg x] at body
        refine ⟨_, 3, τ 180 pl, pl, pl + 1, hsk.trans (wl_end body), ⟨hpl, .inr (.inr (.inr ⟨z, y, x, rfl, rfl, rfl⟩))⟩, ?_, ?_, ?_, fun w => by omega, fun j a b c d => ?_, fun c a => ?_⟩
        · rw [su_s, up_n (by decide), su_s, up_a]; rfl
        · rw [su_s, up_a]; rfl
        · rw [su_s, up_n (by decide), su_s, up_n (by decide)]; exact q19
        · rw [su_s, up_n b, su_s, up_n a]; exact qj j a c
        · rw [su_c a, su_c a]; exact qc c a
  · have body : Mo_next0_0_b (su τ 172 17 (pl : Int)) = some (.inr (su τ2 172 18 0)) := by
      unfold Mo_next0_0_b
      rw [k17, seeQ h1 (by omega), b1_q, if_neg z, if_neg (by decide), b1_q, if_neg (by decide), ll_q, ← e2, q17, seeQ h2 (by omega), b1_q, if_neg z, if_pos rfl, ll_q]
    refine ⟨_, 0, 0, pl, n, hsk.trans (wl_end body), ⟨hpl, .inl ⟨by omega, rfl, rfl, rfl⟩⟩, ?_, ?_, ?_, fun w => by omega, fun j a b c d => ?_, fun c a => ?_⟩
    · rw [su_s, up_n (by decide), q17, show pl = n by omega]
    · rw [su_s, up_a]; rfl
    · rw [su_s, up_n (by decide)]; exact q19
    · rw [su_s, up_n b]; exact qj j a c
    · rw [su_c a]; exact qc c a
end Lexer
