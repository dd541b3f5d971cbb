/-! the class's sums -/
section LawC
variable {σ : Sg} {k v F : Nat → Int}
/-- what the class's judge leaves: the heap and its height alone -/
def sameJ (σ σ' : Sg) : Prop := (∀ c, c ≠ 151 → c ≠ 149 → σ' c = σ c) ∧ ∀ j, j ≠ 2 → σ' 149 j = σ 149 j
theorem sameJ.put {σ' : Sg} {j : Nat} {x : Int} (h : sameJ σ σ') : sameJ σ (su σ' 151 j x) := ⟨fun c a b => by rw [su_c a]; exact h.1 c a b, fun i hi => by rw [su_c (by decide)]; exact h.2 i hi⟩
theorem sameJ.hei {σ' : Sg} {x : Int} (h : sameJ σ σ') : sameJ σ (su σ' 149 2 x) := ⟨fun c a b => by rw [su_c b]; exact h.1 c a b, fun i hi => by rw [su_s, up_n hi]; exact h.2 i hi⟩
theorem kv {x : Int} (h : 0 ≤ x) : Int.tmod x 16 = x % 16 ∧ Int.tdiv x 16 = x / 16 := ⟨Int.tmod_eq_emod_of_nonneg h, Int.tdiv_eq_ediv_of_nonneg h⟩
theorem reckC (hF : ∀ j, j < 10 → σ 150 j = F (j + 1)) : ∀ (n i : Nat) (st : List Int) (kl fin : List Bool) (σ' : Sg), i + n ≤ 400 → (∀ j, i ≤ j → j < i + n → stepR (σ 19 j) (k j) (v j)) → hold (σ' 151) st → σ' 149 2 = (st.length : Int) → typ kl st → kl.length ≤ 60 → tyN k i n kl = some fin → sameJ σ σ' →
    ∃ σ'', Ju_reckon_22_w ((i : Int) + n) 17 (i : Int) σ' = some ((evN k v F i n st).headD 0, σ'') ∧ typ fin (evN k v F i n st) ∧ sameJ σ σ''
  | 0, i, st, kl, fin, σ', hb, hs, hh, he, ht, hl, hty, hJ => by
    cases hty
    refine ⟨σ', wl_end ?_, ht, hJ⟩
    show Ju_reckon_22_b _ 17 (i : Int) σ' = _
    unfold Ju_reckon_22_b
    have hlen := typ_len ht
    rw [if_neg (by omega), he]
    match st, hh with
    | [], _ => rw [if_neg (by simp)]; rfl
    | x :: r, hh =>
      have hr : r.length < 60 := by simp at hlen; omega
      rw [List.length_cons, if_pos (by omega), ix_q (by omega) (by omega), show (((r.length + 1 : Nat) : Int) - 1).toNat = r.length by omega, hh.1]; rfl
  | n + 1, i, st, kl, fin, σ', hb, hs, hh, he, ht, hl, hty, hJ => by
    unfold tyN at hty
    obtain ⟨kl', h1, h2⟩ := Option.bind_eq_some_iff.mp hty
    have hlen := typ_len ht
    have hty' := ev_typ (v := v i) (F := F) h1 ht
    have hl' : kl'.length ≤ 60 := by
      rcases tyS_cases h1 with ⟨-, c, rfl⟩ | ⟨-, r, rfl, rfl⟩ | ⟨-, r, rfl, rfl⟩ | ⟨-, r, rfl, rfl⟩ | ⟨-, r, rfl, rfl⟩ | ⟨-, r, rfl, rfl⟩ <;> simp at hl ⊢ <;> omega
    have hst := hs i (by omega) (by omega)
    have hln : ((ln (17 + 2) : Nat) : Int) = 400 := by decide +kernel
    have turn : ∃ σ1, Ju_reckon_22_b ((i : Int) + ((n + 1 : Nat) : Int)) 17 (i : Int) σ' = some (.inl ((i : Int) + 1, σ1)) ∧ hold (σ1 151) (evS (k i) (v i) F st) ∧ σ1 149 2 = ((evS (k i) (v i) F st).length : Int) ∧ sameJ σ σ1 := by
      unfold Ju_reckon_22_b
      have e19 : σ' (17 + 2) ((i : Int)).toNat = σ 19 i := by rw [Int.toNat_natCast]; exact congrFun (hJ.1 19 (by decide) (by decide)) i
      have e150 : ∀ j, σ' 150 j = σ 150 j := fun j => congrFun (hJ.1 150 (by decide) (by decide)) j
      rw [if_pos (by omega), hln, ix_q (by omega) (by omega), ll_q, ix_q (by omega) (by omega), ll_q, e19, he]
      have h0 : 0 ≤ σ 19 i := by unfold stepR at hst; omega
      obtain ⟨q1, q2⟩ := kv h0
      rw [q1, q2]
      generalize σ 19 i = x at hst h0 ⊢
      generalize k i = s at h1 hst ⊢
      generalize v i = u at hst ⊢
      simp only [ll_q]
      rw [wr_q (n := (i : Int) + 1) (by omega) (by omega)]
      unfold stepR at hst
      rcases tyS_cases h1 with ⟨c, cl, rfl⟩ | ⟨c, r, rfl, rfl⟩ | ⟨c, r, rfl, rfl⟩ | ⟨c, r, rfl, rfl⟩ | ⟨c, r, rfl, rfl⟩ | ⟨c, r, rfl, rfl⟩
      · unfold evS
        by_cases c0 : s = 0
        · rw [if_pos c0, if_pos (by omega), if_pos (by omega), b1_q, i00, ix_q (by omega) (by omega), Int.toNat_natCast, su_c (k' := 149) (by decide), he, wr_q (by omega) (by omega), show x / 16 = u by omega]
          exact ⟨_, rfl, by rw [su_c (by decide), su_s]; exact hold_push hh, by rw [su_s, up_a]; simp, hJ.put.hei⟩
        · rw [if_neg c0, if_pos c.2, if_neg (c := x % 16 = 0) (by omega), b1_q, i10, if_pos (c := x % 16 = 1) (by omega), if_pos (c := (st.length : Int) < 64) (by omega), if_neg (c := x / 16 < 0) (by omega), if_neg (c := 9 < x / 16) (by omega), b1_q, i00, ix_q (by omega) (by omega), ix_q (by omega) (by omega), Int.toNat_natCast, su_c (k' := 149) (by decide), he, wr_q (by omega) (by omega), e150, hF _ (by omega), show (x / 16).toNat + 1 = s.toNat by omega]
          exact ⟨_, rfl, by rw [su_c (by decide), su_s]; exact hold_push hh, by rw [su_s, up_a]; simp, hJ.put.hei⟩
      · obtain ⟨y, r', rfl, -, -⟩ := typ_cons ht
        have hr : r'.length < 60 := by simp at hl hlen; omega
        have ex : (((r'.length + 1 : Nat) : Int) - 1).toNat = r'.length := by omega
        unfold evS
        rw [List.length_cons, if_neg (c := x % 16 = 0) (by omega), b1_q, i10, if_neg (c := x % 16 = 1) (by omega), b1_q, i10, if_pos (c := x % 16 = 2) (by omega), if_pos (c := (0 : Int) < ((r'.length + 1 : Nat) : Int)) (by omega), if_pos (c := 0 < x / 16) (by omega), b1_q, i00, ix_q (by omega) (by omega), nzd_q (by omega), ix_q (by omega) (by omega), ex, hh.1, show x / 16 = u by omega, if_neg (c := s = 0) (by omega), if_neg (c := s ≤ 10) (by omega), if_pos c]
        exact ⟨_, rfl, by rw [su_s]; exact hold_push hh.2, by rw [su_c (by decide), he]; rfl, hJ.put⟩
      · obtain ⟨y, r', rfl, -, -⟩ := typ_cons ht
        have hr : r'.length < 60 := by simp at hl hlen; omega
        have ex : (((r'.length + 1 : Nat) : Int) - 1).toNat = r'.length := by omega
        unfold evS
        rw [List.length_cons, if_neg (c := x % 16 = 0) (by omega), b1_q, i10, if_neg (c := x % 16 = 1) (by omega), b1_q, i10, if_neg (c := x % 16 = 2) (by omega), b1_q, i10, if_pos (c := x % 16 = 3) (by omega), if_pos (c := (0 : Int) < ((r'.length + 1 : Nat) : Int)) (by omega), b1_q, i00, ix_q (by omega) (by omega), ix_q (by omega) (by omega), ex, hh.1, if_neg (c := s = 0) (by omega), if_neg (c := s ≤ 10) (by omega), if_neg (c := s = 26) (by omega), if_pos c]
        exact ⟨_, rfl, by rw [su_s]; exact hold_push hh.2, by rw [su_c (by decide), he]; rfl, hJ.put⟩
      all_goals
        obtain ⟨y, r', rfl, -, ht2⟩ := typ_cons ht
        obtain ⟨z, r'', rfl, -, -⟩ := typ_cons ht2
        have hr : r''.length < 59 := by simp at hl hlen; omega
        have e31 : wr (((r''.length + 1 + 1 : Nat) : Int) - 1) = ((r''.length + 1 : Nat) : Int) := by rw [wr_q (by omega) (by omega)]; omega
        have ex : (((r''.length + 1 : Nat) : Int) - 1).toNat = r''.length := by omega
        have ey : σ' 151 (r''.length + 1) = y := hh.1
        have he2 : ∀ q : Int, su σ' 149 2 q 149 2 = q := fun q => by rw [su_s, up_a]
        have he3 : ∀ q : Int, su σ' 149 2 q 151 = σ' 151 := fun q => su_c (by decide)
        unfold evS
        rw [List.length_cons, List.length_cons, if_neg (c := x % 16 = 0) (by omega), b1_q, i10, if_neg (c := x % 16 = 1) (by omega), b1_q, i10, if_neg (c := x % 16 = 2) (by omega), b1_q, i10, if_neg (c := x % 16 = 3) (by omega), b1_q, i10, if_neg (c := x % 16 < 4) (by omega), if_pos (c := (1 : Int) < ((r''.length + 1 + 1 : Nat) : Int)) (by omega), e31]
        simp only [he2, he3]
        rw [ix_q (by omega) (by omega), ix_q (by omega) (by omega), ex, Int.toNat_natCast, hh.2.1, ey, join_q (s := s) (by omega) (by split <;> first | omega | (split <;> omega)), b1_q, ix_q (by omega) (by omega), if_neg (c := s = 0) (by omega), if_neg (c := s ≤ 10) (by omega), if_neg (c := s = 26) (by omega), if_neg (c := s = 30) (by omega)]
        exact ⟨_, rfl, by rw [su_s, he3]; exact hold_push hh.2.2, by rw [su_c (by decide), he2]; rfl, hJ.hei.put⟩
    obtain ⟨σ1, t1, t2, t3, t4⟩ := turn
    obtain ⟨σ2, g1, g2, g3⟩ := reckC hF n (i + 1) _ kl' fin σ1 (by omega) (fun j a b => hs j (by omega) (by omega)) t2 t3 hty' hl' h2 t4
    refine ⟨σ2, ?_, g2, g3⟩
    have e : Ju_reckon_22_w ((i : Int) + ((n + 1 : Nat) : Int)) 17 (i : Int) σ' = Ju_reckon_22_w ((i : Int) + ((n + 1 : Nat) : Int)) 17 ((i : Int) + 1) σ1 := wl_go t1
    rw [e, show (i : Int) + ((n + 1 : Nat) : Int) = ((i + 1 : Nat) : Int) + (n : Int) by omega, show (i : Int) + 1 = ((i + 1 : Nat) : Int) by omega]
    exact g1
end LawC
