/-! text: how the class cuts its tape -/
def LWR (c : Nat → Int) (n k pl : Nat) (kd vl : Int) (en : Nat) : Prop :=
   (pl < n ∧ isL (c pl) ∧ en = leF c (n - pl) pl ∧ vl = wxL (wids k) (seg c pl (en - pl)) 0 ∧ kd = (if vl = -1 then 4 else 1)) ∨
   (pl < n ∧ ¬ isL (c pl) ∧ isD (c pl) ∧ en = dgF c (n - pl) pl ∧ vl = dvF c pl (n - pl) pl 0 ∧ kd = (if 4 < en - pl then 4 else 2)) ∨
   (pl < n ∧ ¬ isL (c pl) ∧ ¬ isD (c pl) ∧ en = pl + 1 ∧ vl = c pl ∧ kd = 3)
def adT (σ : Sg) (m : Nat) (a b c : Int) : Sg := su (su (su (su σ 146 m a) 147 m b) 148 m c) 141 8 ((m : Int) + 1)
def TOK (c : Nat → Int) (n k : Nat) (σ : Sg) (T : Nat) (q : Nat → Nat) : Prop :=
  q 0 = 0 ∧ (∀ j, j ≤ T → ∃ pl : Nat, σ 148 j = pl ∧ TKN c n k (q j) (σ 146 j) (σ 147 j) pl (q (j + 1)) ∧ q j ≤ n ∧ (j < T → σ 146 j ≠ 0)) ∧ σ 146 T = 0 ∧ T ≤ 400
section Cut
variable {σ : Sg}
theorem ltC_q (x : Int) : Re_isLetter x = some (if (97 ≤ x ∧ x ≤ 122) ∨ (65 ≤ x ∧ x ≤ 90) then 1 else 0) := by
  unfold Re_isLetter
  by_cases a : 97 ≤ x ∧ x ≤ 122
  · rw [if_neg (by omega), if_neg (by omega), b1_q, if_pos rfl, if_pos (.inl a)]
  · have t : (if x < 97 then some 1 else if 122 < x then some 1 else some 0) = some (1 : Int) := by
      by_cases y : x < 97
      · rw [if_pos y]
      · rw [if_neg y, if_pos (by omega)]
    rw [t, b1_q, if_neg (by decide)]
    by_cases b : 65 ≤ x ∧ x ≤ 90
    · rw [if_neg (by omega), if_neg (by omega), if_pos (.inr b)]
    · rw [if_neg (c := (97 ≤ x ∧ x ≤ 122) ∨ (65 ≤ x ∧ x ≤ 90)) (by omega)]
      by_cases y : x < 65
      · rw [if_pos y]
      · rw [if_neg y, if_pos (by omega)]
theorem dgC_q (x : Int) : Re_isDigit x = some (if 48 ≤ x ∧ x ≤ 57 then 1 else 0) := by
  unfold Re_isDigit
  by_cases y : x < 48
  · rw [if_pos y, if_neg (by omega)]
  · rw [if_neg y]
    by_cases z : 57 < x
    · rw [if_pos z, if_neg (by omega)]
    · rw [if_neg z, if_pos (by omega)]
theorem adC {m : Nat} (h8 : σ 141 8 = m) (hm : m ≤ 400) (a b c : Int) : Re_addToken a b c σ = some (adT σ m a b c) := by
  unfold Re_addToken
  have e1 : su σ 146 m a 141 8 = m := by rw [su_c (by decide)]; exact h8
  have e2 : su (su σ 146 m a) 147 m b 141 8 = m := by rw [su_c (by decide)]; exact e1
  have e3 : su (su (su σ 146 m a) 147 m b) 148 m c 141 8 = m := by rw [su_c (by decide)]; exact e2
  rw [h8, if_pos (by omega), ix_q (by omega) (by omega), ll_q, Int.toNat_natCast, e1, ix_q (by omega) (by omega), ll_q, Int.toNat_natCast, e2, ix_q (by omega) (by omega), ll_q, Int.toNat_natCast, e3, wr_q (by omega) (by omega), ll_q]
  rfl
theorem adT_o {m : Nat} {a b c : Int} {x : Nat} (h1 : x ≠ 141) (h2 : x ≠ 146) (h3 : x ≠ 147) (h4 : x ≠ 148) : adT σ m a b c x = σ x := by unfold adT; rw [su_c h1, su_c h4, su_c h3, su_c h2]
theorem adT_m {m : Nat} {a b c : Int} : adT σ m a b c 146 m = a ∧ adT σ m a b c 147 m = b ∧ adT σ m a b c 148 m = c ∧ adT σ m a b c 141 8 = (m : Int) + 1 := by
  unfold adT
  refine ⟨?_, ?_, ?_, ?_⟩
  · rw [su_c (by decide), su_c (by decide), su_c (by decide), su_s, up_a]
  · rw [su_c (by decide), su_c (by decide), su_s, up_a]
  · rw [su_c (by decide), su_s, up_a]
  · rw [su_s, up_a]
theorem adT_n {m j : Nat} {a b c : Int} (h : j ≠ m) : adT σ m a b c 146 j = σ 146 j ∧ adT σ m a b c 147 j = σ 147 j ∧ adT σ m a b c 148 j = σ 148 j := by
  unfold adT
  refine ⟨?_, ?_, ?_⟩
  · rw [su_c (by decide), su_c (by decide), su_c (by decide), su_s, up_n h]
  · rw [su_c (by decide), su_c (by decide), su_s, up_n h, su_c (by decide)]
  · rw [su_c (by decide), su_s, up_n h, su_c (by decide), su_c (by decide)]
theorem adT_1 {m j : Nat} {a b c : Int} (h : j ≠ 8) : adT σ m a b c 141 j = σ 141 j := by
  unfold adT
  rw [su_s, up_n h, su_c (by decide), su_c (by decide), su_c (by decide)]
/-- letters -/
theorem cu16 {n k s : Nat} (hn : n ≤ 400) (hk : k < 4) {m : Nat} (h8 : σ 141 8 = m) (hm : m ≤ 400) : ∀ (d p : Nat), p + d = n → s ≤ p → Re_cutOne_16_w (n : Int) σ k (s : Int) (p : Int) = some ((leF (σ 145) d p : Int), adT σ m (if wxL (wids k) (seg (σ 145) s (leF (σ 145) d p - s)) 0 = -1 then 4 else 1) (wxL (wids k) (seg (σ 145) s (leF (σ 145) d p - s)) 0) (s : Int))
  | d, p, hp, hs => by
    have stop : ¬ (p < n ∧ ((97 ≤ σ 145 p ∧ σ 145 p ≤ 122) ∨ (65 ≤ σ 145 p ∧ σ 145 p ≤ 90))) → Re_cutOne_16_w (n : Int) σ k (s : Int) (p : Int) = some ((p : Int), adT σ m (if wxL (wids k) (seg (σ 145) s (p - s)) 0 = -1 then 4 else 1) (wxL (wids k) (seg (σ 145) s (p - s)) 0) (s : Int)) := fun z => by
      refine wl_end ?_
      show Re_cutOne_16_b (n : Int) σ k (s : Int) (p : Int) = _
      unfold Re_cutOne_16_b
      have t : (if (p : Int) < (n : Int) then ix (p : Int) 400 (b1 (Re_isLetter (σ 145 (p : Int).toNat)) fun r27 => if r27 = 0 then some 1 else some 0) else some 1) = some (1 : Int) := by
        by_cases y : p < n
        · rw [if_pos (by omega), ix_q (by omega) (by omega), Int.toNat_natCast, ltC_q, b1_q, if_neg (c := (97 ≤ σ 145 p ∧ σ 145 p ≤ 122) ∨ (65 ≤ σ 145 p ∧ σ 145 p ≤ 90)) (fun x => z ⟨y, x⟩), if_pos rfl]
        · rw [if_neg (by omega)]
      rw [t, b1_q, if_neg (by decide), fnW hk hs (by omega), b1_q, adC h8 hm, adC h8 hm]
      by_cases y : wxL (wids k) (seg (σ 145) s (p - s)) 0 = -1
      · rw [if_pos y, if_pos y, b1_q]
      · rw [if_neg y, if_neg y, b1_q]
    match d, hp with
    | 0, hp => exact stop (by omega)
    | d + 1, hp =>
      unfold leF
      by_cases z : (97 ≤ σ 145 p ∧ σ 145 p ≤ 122) ∨ (65 ≤ σ 145 p ∧ σ 145 p ≤ 90)
      · rw [if_pos z]
        have ih := cu16 (s := s) hn hk h8 hm d (p + 1) (by omega) (by omega)
        refine (wl_go ?_).trans ih
        show Re_cutOne_16_b (n : Int) σ k (s : Int) (p : Int) = _
        unfold Re_cutOne_16_b
        rw [if_pos (by omega), ix_q (by omega) (by omega), Int.toNat_natCast, ltC_q, b1_q, if_pos z, if_neg (by decide), b1_q, i00, wr_q (by omega) (by omega), ll_q]
        rfl
      · rw [if_neg z]; exact stop (fun y => z y.2)
/-- digits -/
theorem cu88 {n s : Nat} (hn : n ≤ 400) {m : Nat} (h8 : σ 141 8 = m) (hm : m ≤ 400) : ∀ (d p : Nat) (v : Int), p + d = n → s ≤ p → (0 ≤ v ∧ v < pwF (p - s)) → Re_cutOne_88_w (n : Int) σ (s : Int) (p : Int) v = some ((dgF (σ 145) d p : Int), adT σ m (if 4 < dgF (σ 145) d p - s then 4 else 2) (dvF (σ 145) s d p v) (s : Int))
  | d, p, v, hp, hs, hv => by
    have pw := pwF_in (p - s)
    have stop : ¬ (p < n ∧ (48 ≤ σ 145 p ∧ σ 145 p ≤ 57)) → Re_cutOne_88_w (n : Int) σ (s : Int) (p : Int) v = some ((p : Int), adT σ m (if 4 < p - s then 4 else 2) v (s : Int)) := fun z => by
      refine wl_end ?_
      show Re_cutOne_88_b (n : Int) σ (s : Int) (p : Int) v = _
      unfold Re_cutOne_88_b
      have t : (if (p : Int) < (n : Int) then ix (p : Int) 400 (b1 (Re_isDigit (σ 145 (p : Int).toNat)) fun r13 => if r13 = 0 then some 1 else some 0) else some 1) = some (1 : Int) := by
        by_cases y : p < n
        · rw [if_pos (by omega), ix_q (by omega) (by omega), Int.toNat_natCast, dgC_q, b1_q, if_neg (c := 48 ≤ σ 145 p ∧ σ 145 p ≤ 57) (fun x => z ⟨y, x⟩), if_pos rfl]
        · rw [if_neg (by omega)]
      rw [t, b1_q, if_neg (by decide), wr_q (by omega) (by omega), adC h8 hm, adC h8 hm]
      by_cases y : 4 < p - s
      · rw [if_pos (by omega), if_pos y, b1_q]
      · rw [if_neg (by omega), if_neg y, b1_q]
    match d, hp with
    | 0, hp => exact stop (by omega)
    | d + 1, hp =>
      unfold dgF dvF
      by_cases z : 48 ≤ σ 145 p ∧ σ 145 p ≤ 57
      · rw [if_pos z, if_pos z]
        have dv := dv_step hs z hv
        have pw' := pwF_in (p + 1 - s)
        have ih := cu88 (s := s) hn h8 hm d (p + 1) (if p < s + 4 then 10 * v + σ 145 p - 48 else v) (by omega) (by omega) dv
        refine (wl_go ?_).trans ih
        show Re_cutOne_88_b (n : Int) σ (s : Int) (p : Int) v = _
        unfold Re_cutOne_88_b
        rw [if_pos (by omega), ix_q (by omega) (by omega), Int.toNat_natCast, dgC_q, b1_q, if_pos z, if_neg (by decide), b1_q, i00, wr_q (n := (p : Int) - (s : Int)) (by omega) (by omega), wr_q (n := (p : Int) + 1) (by omega) (by omega)]
        by_cases y : p < s + 4
        · rw [if_pos y] at dv
          rw [if_pos (by omega), if_pos y, ix_q (by omega) (by omega), Int.mul_comm, wr_q (by omega) (by omega), ll_q, ll_q]
          rfl
        · rw [if_neg (by omega), if_neg y, ll_q]
          rfl
      · rw [if_neg z, if_neg z]; exact stop (fun y => z y.2)
theorem cu1 {n k i : Nat} (hn : n ≤ 400) (hk : k < 4) {m : Nat} (h8 : σ 141 8 = m) (hm : m ≤ 400) (hi : i < n) : ∃ kd vl en, Re_cutOne k (i : Int) (n : Int) σ = some (((en : Nat) : Int), adT σ m kd vl (i : Int)) ∧ LWR (σ 145) n k i kd vl en := by
  unfold Re_cutOne
  rw [ix_q (by omega) (by omega), Int.toNat_natCast, ltC_q, b1_q]
  by_cases z : (97 ≤ σ 145 i ∧ σ 145 i ≤ 122) ∨ (65 ≤ σ 145 i ∧ σ 145 i ≤ 90)
  · rw [if_pos z, if_neg (by decide), cu16 hn hk h8 hm (n - i) i (by omega) (Nat.le_refl _)]
    exact ⟨_, _, _, rfl, .inl ⟨hi, z, rfl, rfl, rfl⟩⟩
  · rw [if_neg z, if_pos rfl, ix_q (by omega) (by omega), dgC_q, b1_q]
    by_cases y : 48 ≤ σ 145 i ∧ σ 145 i ≤ 57
    · rw [if_pos y, if_neg (by decide), cu88 hn h8 hm (n - i) i 0 (by omega) (Nat.le_refl _) (by rw [Nat.sub_self]; decide)]
      exact ⟨_, _, _, rfl, .inr (.inl ⟨hi, z, y, rfl, rfl, rfl⟩)⟩
    · rw [if_neg y, if_pos rfl, ix_q (by omega) (by omega), adC h8 hm, b1_q, wr_q (by omega) (by omega)]
      exact ⟨_, _, i + 1, rfl, .inr (.inr ⟨hi, z, y, rfl, rfl, rfl⟩)⟩
theorem cuT {n k : Nat} (hn : n ≤ 400) (hk : k < 4) {c : Nat → Int} : ∀ (d i turn m : Nat) (q : Nat → Nat) (σ : Sg), i + d = n → turn ≤ i → σ 145 = c → σ 141 8 = m → m ≤ i → q 0 = 0 → q m ≤ i → skF c (n - q m) (q m) = skF c (n - i) i → (∀ j, j < m → ∃ pl : Nat, σ 148 j = pl ∧ TKN c n k (q j) (σ 146 j) (σ 147 j) pl (q (j + 1)) ∧ q j ≤ n ∧ σ 146 j ≠ 0) → ∃ σ' T q', Re_cutTokens_41_w (n : Int) k (i : Int) (turn : Int) σ = some σ' ∧ TOK c n k σ' T q' ∧ σ' 141 8 = (T : Int) + 1 ∧ (∀ x, x ≠ 141 → x ≠ 146 → x ≠ 147 → x ≠ 148 → σ' x = σ x) ∧ ∀ j, j ≠ 8 → σ' 141 j = σ 141 j := by
  intro d
  induction d using Nat.strongRecOn with
  | ind d ih =>
    intro i turn m q σ hi ht hc h8 hm q0 hq hs hj
    rcases Nat.eq_zero_or_pos d with z | z
    · subst z
      have e : i = n := by omega
      subst e
      have tE : TKN c i k (q m) 0 0 i i := ⟨by rw [hs, Nat.sub_self]; rfl, .inl ⟨rfl, rfl, rfl, rfl⟩⟩
      refine ⟨adT σ m 0 0 (i : Int), m, fun j => if j = m + 1 then i else q j, wl_end ?_, ⟨?_, fun j hjm => ?_, adT_m.1, by omega⟩, adT_m.2.2.2, fun x a b c d => adT_o a b c d, fun j hj => adT_1 hj⟩
      · show Re_cutTokens_41_b (i : Int) k (i : Int) (turn : Int) σ = _
        unfold Re_cutTokens_41_b
        have t : (if (turn : Int) < 400 then if (i : Int) < (i : Int) then some 0 else some 1 else some 1) = some (1 : Int) := by
          by_cases y : (turn : Int) < 400
          · rw [if_pos y, if_neg (by omega)]
          · rw [if_neg y]
        rw [t, b1_q, if_neg (by decide), adC h8 (by omega), b1_q]
      · show (if 0 = m + 1 then i else q 0) = 0
        rw [if_neg (by omega)]; exact q0
      · by_cases e : j = m
        · subst e
          refine ⟨i, adT_m.2.2.1, ?_, ?_, fun y => by omega⟩
          · show TKN c i k (if j = j + 1 then i else q j) _ _ i (if j + 1 = j + 1 then i else q (j + 1))
            rw [if_neg (by omega), if_pos rfl, adT_m.1, adT_m.2.1]; exact tE
          · show (if j = j + 1 then i else q j) ≤ i
            rw [if_neg (by omega)]; exact hq
        · obtain ⟨pl, p1, p2, p3, p4⟩ := hj j (by omega)
          have en := adT_n (σ := σ) (a := 0) (b := 0) (c := (i : Int)) e
          refine ⟨pl, by rw [en.2.2]; exact p1, ?_, ?_, fun _ => by rw [en.1]; exact p4⟩
          · show TKN c i k (if j = m + 1 then i else q j) _ _ pl (if j + 1 = m + 1 then i else q (j + 1))
            rw [if_neg (by omega), if_neg (by omega), en.1, en.2.1]; exact p2
          · show (if j = m + 1 then i else q j) ≤ i
            rw [if_neg (by omega)]; exact p3
    · have hin : i < n := by omega
      by_cases hsp : c i = 32 ∨ c i = 10
      · have sk : skF c (n - i) i = skF c (n - (i + 1)) (i + 1) := by
          rw [show n - i = (n - (i + 1)) + 1 by omega]
          show (if c i = 32 ∨ c i = 10 then skF c (n - (i + 1)) (i + 1) else i) = _
          rw [if_pos hsp]
        obtain ⟨σ', T, q', g1, g2⟩ := ih (d - 1) (by omega) (i + 1) (turn + 1) m q σ (by omega) (by omega) hc h8 (by omega) q0 (by omega) (hs.trans sk) hj
        refine ⟨σ', T, q', (wl_go ?_).trans g1, g2⟩
        show Re_cutTokens_41_b (n : Int) k (i : Int) (turn : Int) σ = _
        unfold Re_cutTokens_41_b
        rw [if_pos (by omega), if_pos (by omega), b1_q, i00, ix_q (by omega) (by omega), Int.toNat_natCast, hc, wr_q (n := (i : Int) + 1) (by omega) (by omega), wr_q (by omega) (by omega)]
        by_cases y : c i = 32
        · rw [if_pos y, ll_q, ll_q]
          rfl
        · rw [if_neg y, ix_q (by omega) (by omega), if_pos (by omega), ll_q, ll_q]
          rfl
      · have sk : skF c (n - i) i = i := by
          rw [show n - i = (n - (i + 1)) + 1 by omega]
          show (if c i = 32 ∨ c i = 10 then skF c (n - (i + 1)) (i + 1) else i) = _
          rw [if_neg hsp]
        obtain ⟨kd, vl, en, c1, c2⟩ := cu1 (σ := σ) hn hk h8 (by omega) hin
        rw [hc] at c2
        have tN : TKN c n k (q m) kd vl i en := ⟨by rw [hs, sk], .inr c2⟩
        have te := TKN_en tN (by omega)
        have kd0 : kd ≠ 0 := by
          rcases c2 with y | y | y
          · rw [y.2.2.2.2]; split <;> decide
          · rw [y.2.2.2.2.2]; split <;> decide
          · rw [y.2.2.2.2.2]; decide
        have ten := te.2.2.2 kd0
        obtain ⟨σ', T, q', g1, g2, g3, g4, g5⟩ := ih (n - en) (by omega) en (turn + 1) (m + 1) (fun j => if j = m + 1 then en else q j) (adT σ m kd vl (i : Int)) (by omega) (by omega) (by rw [adT_o (by decide) (by decide) (by decide) (by decide)]; exact hc) (by rw [adT_m.2.2.2]; rfl) (by omega) (by
          show (if 0 = m + 1 then en else q 0) = 0
          rw [if_neg (by omega)]; exact q0) (by
          show (if m + 1 = m + 1 then en else q (m + 1)) ≤ en
          rw [if_pos rfl]; exact Nat.le_refl _) (by
          show skF c (n - (if m + 1 = m + 1 then en else q (m + 1))) (if m + 1 = m + 1 then en else q (m + 1)) = _
          rw [if_pos rfl]) (fun j hj' => by
          by_cases e : j = m
          · subst e
            refine ⟨i, adT_m.2.2.1, ?_, ?_, by rw [adT_m.1]; exact kd0⟩
            · show TKN c n k (if j = j + 1 then en else q j) _ _ i (if j + 1 = j + 1 then en else q (j + 1))
              rw [if_neg (by omega), if_pos rfl, adT_m.1, adT_m.2.1]; exact tN
            · show (if j = j + 1 then en else q j) ≤ n
              rw [if_neg (by omega)]; omega
          · obtain ⟨pl, p1, p2, p3, p4⟩ := hj j (by omega)
            have en' := adT_n (σ := σ) (a := kd) (b := vl) (c := (i : Int)) e
            refine ⟨pl, by rw [en'.2.2]; exact p1, ?_, ?_, by rw [en'.1]; exact p4⟩
            · show TKN c n k (if j = m + 1 then en else q j) _ _ pl (if j + 1 = m + 1 then en else q (j + 1))
              rw [if_neg (by omega), if_neg (by omega), en'.1, en'.2.1]; exact p2
            · show (if j = m + 1 then en else q j) ≤ n
              rw [if_neg (by omega)]; exact p3)
        refine ⟨σ', T, q', (wl_go ?_).trans g1, g2, g3, fun x a b e f => by rw [g4 x a b e f, adT_o a b e f], fun j hj' => by rw [g5 j hj', adT_1 hj']⟩
        show Re_cutTokens_41_b (n : Int) k (i : Int) (turn : Int) σ = _
        unfold Re_cutTokens_41_b
        rw [if_pos (by omega), if_pos (by omega), b1_q, i00, ix_q (by omega) (by omega), Int.toNat_natCast, hc, if_neg (fun y => hsp (.inl y)), ix_q (by omega) (by omega), if_neg (fun y => hsp (.inr y)), c1, b2_q, wr_q (by omega) (by omega), ll_q]
        rfl
end Cut
