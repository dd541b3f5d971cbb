section GoRows
variable {κ : Kx} {M : Md} {E : En} {pc : Nat} {L : List (Option AV)} {st : List AV} {σ : Sg}
theorem Go.eqs {st' : List AV} {L' : List (Option AV)} {σ' : Sg} (h1 : L = L') (h2 : st = st') (h3 : σ = σ') (k : Go κ M E pc L' st' σ') : Go κ M E pc L st σ := by subst h1; subst h2; subst h3; exact k
/-- two ints that are one int of the machine -/
theorem Go.top {x y : Int} (h : Int32.ofInt x = Int32.ofInt y) (k : Go κ M E pc L (vi y :: st) σ) : Go κ M E pc L (vi x :: st) σ := by
  intro p e s m args below meth c H locs ls F hE hS hW hL
  have h2 := k p e s m args below meth c H locs ls F hE hS hW hL
  have e1 : (vi x :: st).map (cv κ) = (vi y :: st).map (cv κ) := by
    show Value.int (Int32.ofInt x) :: _ = Value.int (Int32.ofInt y) :: _
    rw [h]
  rw [e1]; exact h2
theorem i32_t {n : Int} (h : -2147483648 ≤ n ∧ n < 2147483648) : (Int32.ofInt n).toInt = n := Int32.toInt_ofInt_of_le (by simpa using h.1) (by simpa using h.2)
theorem i32_eq {x y : Int} (hx : -2147483648 ≤ x ∧ x < 2147483648) (hy : -2147483648 ≤ y ∧ y < 2147483648) : Int32.ofInt x = Int32.ofInt y ↔ x = y := by
  constructor
  · intro h; rw [← i32_t hx, h, i32_t hy]
  · intro h; rw [h]
theorem i32_lt {x y : Int} (hx : -2147483648 ≤ x ∧ x < 2147483648) (hy : -2147483648 ≤ y ∧ y < 2147483648) : Int32.ofInt x < Int32.ofInt y ↔ x < y := by
  rw [Int32.lt_iff_toInt_lt, i32_t hx, i32_t hy]
theorem i32_le {x y : Int} (hx : -2147483648 ≤ x ∧ x < 2147483648) (hy : -2147483648 ≤ y ∧ y < 2147483648) : Int32.ofInt x ≤ Int32.ofInt y ↔ x ≤ y := by
  rw [Int32.le_iff_toInt_le, i32_t hx, i32_t hy]
theorem i64_t {n : Int} (h : -9223372036854775808 ≤ n ∧ n < 9223372036854775808) : (Int64.ofInt n).toInt = n := Int64.toInt_ofInt_of_le (by simpa using h.1) (by simpa using h.2)
theorem ofI_toI (x : Int32) : Int32.ofInt x.toInt = x := Int32.ofInt_toInt x
theorem i32_0 : Int32.ofInt 0 = 0 := by decide
/-- what the machine keeps of a number -/
def wr (n : Int) : Int := n.bmod 4294967296
theorem wr_of (n : Int) : Int32.ofInt n = Int32.ofInt (wr n) := by
  apply Int32.toInt_inj.mp
  rw [Int32.toInt_ofInt, Int32.toInt_ofInt, wr]
  simp [Int32.size]
theorem wr_in (n : Int) : -2147483648 ≤ wr n ∧ wr n < 2147483648 := by
  unfold wr
  have h1 := Int.le_bmod (x := n) (m := 4294967296) (by decide)
  have h2 := Int.bmod_lt (x := n) (m := 4294967296) (by decide)
  omega
theorem wr_id {n : Int} (h : -2147483648 ≤ n ∧ n < 2147483648) : wr n = n := by
  have h1 := i32_t h
  have h2 := i32_t (wr_in n)
  rw [← wr_of] at h2
  rw [← h2, h1]

theorem G_iconst {n : Int} (hd : decode M.2.1 pc = .ok (.iconst n, 1)) (k : Go κ M E (pc + 1) L (vi n :: st) σ) : Go κ M E pc L st σ := by
  intro p e s m args below meth c H locs ls F hE hS hW hL
  exact lv_iconst F.1 F.2.1 hd rfl (k p e s m args below meth c H locs ls F hE hS hW hL)
theorem G_bipush {n : Int} (hd : decode M.2.1 pc = .ok (.bipush n, 2)) (hv : (Int8.ofInt n).toInt32 = Int32.ofInt n) (k : Go κ M E (pc + 2) L (vi n :: st) σ) : Go κ M E pc L st σ := by
  intro p e s m args below meth c H locs ls F hE hS hW hL
  exact lv_bipush F.1 F.2.1 hd hv (k p e s m args below meth c H locs ls F hE hS hW hL)
theorem G_sipush {n : Int} (hd : decode M.2.1 pc = .ok (.sipush n, 3)) (hv : (Int16.ofInt n).toInt32 = Int32.ofInt n) (k : Go κ M E (pc + 3) L (vi n :: st) σ) : Go κ M E pc L st σ := by
  intro p e s m args below meth c H locs ls F hE hS hW hL
  exact lv_sipush F.1 F.2.1 hd hv (k p e s m args below meth c H locs ls F hE hS hW hL)
theorem G_lconst {n : Fin 2} (hd : decode M.2.1 pc = .ok (.lconst n, 1)) (k : Go κ M E (pc + 1) L (vl (n : Nat) :: st) σ) : Go κ M E pc L st σ := by
  intro p e s m args below meth c H locs ls F hE hS hW hL
  refine lv_lconst F.1 F.2.1 hd ?_ (k p e s m args below meth c H locs ls F hE hS hW hL)
  match n with
  | 0 => rfl
  | 1 => rfl
theorem G_ldc {idx : Nat} {n : Int} {v : Int32} (hd : decode M.2.1 pc = .ok (.ldc idx, 2)) (hc : Cond.constant M.1.cls idx v ∈ gw) (hv : v = Int32.ofInt n) (k : Go κ M E (pc + 2) L (vi n :: st) σ) : Go κ M E pc L st σ := by
  intro p e s m args below meth c H locs ls F hE hS hW hL
  subst hv
  exact lv_ldc F.1 F.2.1 F.2.2.2.1 (F.2.2.2.2.1 _ hc) hd (k p e s m args below meth c H locs ls F hE hS hW hL)
theorem G_ldcw {idx : Nat} {n : Int} {v : Int32} (hd : decode M.2.1 pc = .ok (.ldc_w idx, 3)) (hc : Cond.constant M.1.cls idx v ∈ gw) (hv : v = Int32.ofInt n) (k : Go κ M E (pc + 3) L (vi n :: st) σ) : Go κ M E pc L st σ := by
  intro p e s m args below meth c H locs ls F hE hS hW hL
  subst hv
  exact lv_ldcw F.1 F.2.1 F.2.2.2.1 (F.2.2.2.2.1 _ hc) hd (k p e s m args below meth c H locs ls F hE hS hW hL)
theorem G_ldc2 {idx : Nat} {n : Int} {v : Int64} (hd : decode M.2.1 pc = .ok (.ldc2_w idx, 3)) (hc : Cond.constantLong M.1.cls idx v ∈ gw) (hv : v = Int64.ofInt n) (k : Go κ M E (pc + 3) L (vl n :: st) σ) : Go κ M E pc L st σ := by
  intro p e s m args below meth c H locs ls F hE hS hW hL
  subst hv
  exact lv_ldc2 F.1 F.2.1 F.2.2.2.1 (F.2.2.2.2.1 _ hc) hd (k p e s m args below meth c H locs ls F hE hS hW hL)
theorem G_ldcS {idx : Nat} {tx : String} (i : Nat) (hi : sOwn[i]? = some (M.1.cls, idx, tx)) (hd : decode M.2.1 pc = .ok (.ldc idx, 2)) (k : Go κ M E (pc + 2) L (vr (1000 + 2 * i) :: st) σ) : Go κ M E pc L st σ := by
  intro p e s m args below meth c H locs ls F hE hS hW hL
  exact va_ldcS F.1 F.2.1 F.2.2.2.1 (hE.2.2.2.2.1 i _ hi) hd (k p e s m args below meth c H locs ls F hE hS hW hL)
theorem G_iload_n {q : Fin 4} {x : Int} (i : Nat) (hi : (q : Nat) = i) (hl : L[i]? = some (some (vi x))) (hd : decode M.2.1 pc = .ok (.iload_n q, 1)) (k : Go κ M E (pc + 1) L (vi x :: st) σ) : Go κ M E pc L st σ := by
  intro p e s m args below meth c H locs ls F hE hS hW hL
  exact lv_iload_n F.1 F.2.1 hd hi (hL.2.2 i _ hl) (k p e s m args below meth c H locs ls F hE hS hW hL)
theorem G_iload_w {x : Int} (i : Nat) (hl : L[i]? = some (some (vi x))) (hd : decode M.2.1 pc = .ok (.iload i, 2)) (k : Go κ M E (pc + 2) L (vi x :: st) σ) : Go κ M E pc L st σ := by
  intro p e s m args below meth c H locs ls F hE hS hW hL
  exact lv_iload F.1 F.2.1 hd (hL.2.2 i _ hl) (k p e s m args below meth c H locs ls F hE hS hW hL)
theorem G_lload_n {q : Fin 4} {x : Int} (i : Nat) (hi : (q : Nat) = i) (hl : L[i]? = some (some (vl x))) (hd : decode M.2.1 pc = .ok (.lload_n q, 1)) (k : Go κ M E (pc + 1) L (vl x :: st) σ) : Go κ M E pc L st σ := by
  intro p e s m args below meth c H locs ls F hE hS hW hL
  exact lv_lload_n F.1 F.2.1 hd hi (hL.2.2 i _ hl) (k p e s m args below meth c H locs ls F hE hS hW hL)
theorem G_lload_w {x : Int} (i : Nat) (hl : L[i]? = some (some (vl x))) (hd : decode M.2.1 pc = .ok (.lload i, 2)) (k : Go κ M E (pc + 2) L (vl x :: st) σ) : Go κ M E pc L st σ := by
  intro p e s m args below meth c H locs ls F hE hS hW hL
  exact lv_lload F.1 F.2.1 hd (hL.2.2 i _ hl) (k p e s m args below meth c H locs ls F hE hS hW hL)
theorem G_aload_n {q : Fin 4} {x : Nat} (i : Nat) (hi : (q : Nat) = i) (hl : L[i]? = some (some (vr x))) (hd : decode M.2.1 pc = .ok (.aload_n q, 1)) (k : Go κ M E (pc + 1) L (vr x :: st) σ) : Go κ M E pc L st σ := by
  intro p e s m args below meth c H locs ls F hE hS hW hL
  exact lv_aload_n F.1 F.2.1 hd hi (hL.2.2 i _ hl) (k p e s m args below meth c H locs ls F hE hS hW hL)
theorem G_aload_w {x : Nat} (i : Nat) (hl : L[i]? = some (some (vr x))) (hd : decode M.2.1 pc = .ok (.aload i, 2)) (k : Go κ M E (pc + 2) L (vr x :: st) σ) : Go κ M E pc L st σ := by
  intro p e s m args below meth c H locs ls F hE hS hW hL
  exact lv_aload F.1 F.2.1 hd (hL.2.2 i _ hl) (k p e s m args below meth c H locs ls F hE hS hW hL)
def aL (κ : Kx) (L : List (Option AV)) : List (Nat × Value) := (List.range L.length).filterMap (fun i => match L[i]? with | some (some v) => some (i, cv κ v) | _ => none)
theorem aL_mem {q : Nat × Value} (h : q ∈ aL κ L) : ∃ v, L[q.1]? = some (some v) ∧ q.2 = cv κ v := by
  obtain ⟨i, -, hi⟩ := List.mem_filterMap.mp h
  revert hi
  cases hv : L[i]? with
  | none => intro hi; cases hi
  | some o =>
    cases o with
    | none => intro hi; cases hi
    | some v => intro hi; cases hi; exact ⟨v, hv, rfl⟩
theorem aL_in {i : Nat} {v : AV} (h : L[i]? = some (some v)) : (i, cv κ v) ∈ aL κ L := by
  refine List.mem_filterMap.mpr ⟨i, List.mem_range.mpr (List.getElem?_eq_some_iff.mp h).1, ?_⟩
  simp [h]
theorem Lr.has {nL : Nat} {ls : Array Slot} (h : Lr κ nL L ls) : lv_has ls nL (aL κ L) := ⟨h.1, h.2.1, fun q hq => by
  obtain ⟨v, h1, h2⟩ := aL_mem hq
  rw [h2]; exact h.2.2 _ _ h1⟩
/-- no long stands just before place i -/
def pL (L : List (Option AV)) : Nat → Bool
  | 0 => true
  | i + 1 => match L[i]? with
    | some (some (.inr (.inl _))) => false
    | _ => true
theorem cat_cv {v : AV} (h : (cv κ v).category = 2) : ∃ n, v = .inr (.inl n) := by
  match v with
  | .inl n => exact absurd h (by simp [cv, Value.category])
  | .inr (.inl n) => exact ⟨n, rfl⟩
  | .inr (.inr none) => exact absurd h (by simp [cv, Value.category])
  | .inr (.inr (some k)) => exact absurd h (by simp [cv, Value.category])
theorem Lr.set1 {nL : Nat} {ls' : Array Slot} {i : Nat} {v : AV} (hp : pL L i = true) (h : lv_has ls' nL ((i, cv κ v) :: (aL κ L).filter (fun q => !(q.1 == i) && !(q.1 + 1 == i && q.2.category == 2)))) : Lr κ nL (L.set i (some v)) ls' := by
  refine ⟨h.1, h.2.1, fun j x hx => ?_⟩
  by_cases hj : j = i
  · subst hj
    rw [List.getElem?_set] at hx
    split at hx
    · split at hx
      · cases hx; exact h.2.2 (j, cv κ v) List.mem_cons_self
      · cases hx
    · rename_i h9; exact absurd rfl h9
  · rw [List.getElem?_set_ne (fun e => hj e.symm)] at hx
    refine h.2.2 (j, cv κ x) (List.mem_cons_of_mem _ (List.mem_filter.mpr ⟨aL_in hx, ?_⟩))
    simp only [Bool.and_eq_true, Bool.not_eq_true', beq_eq_false_iff_ne, ne_eq]
    refine ⟨hj, ?_⟩
    rw [Bool.and_eq_false_iff]
    by_cases h1 : j + 1 = i
    · right
      rw [beq_eq_false_iff_ne]
      intro h2
      obtain ⟨n, rfl⟩ := cat_cv h2
      subst h1
      simp [pL, hx] at hp
    · left; simpa using h1
theorem Lr.set2 {nL : Nat} {ls' : Array Slot} {i : Nat} {v : AV} (hp : pL L i = true) (h : lv_has ls' nL ((i, cv κ v) :: (aL κ L).filter (fun q => !(q.1 == i) && (!(q.1 == i + 1) && !(q.1 + 1 == i && q.2.category == 2))))) : Lr κ nL ((L.set i (some v)).set (i + 1) none) ls' := by
  refine ⟨h.1, h.2.1, fun j x hx => ?_⟩
  by_cases hj2 : j = i + 1
  · subst hj2
    rw [List.getElem?_set] at hx
    split at hx
    · split at hx
      · cases hx
      · cases hx
    · rename_i h9; exact absurd rfl h9
  rw [List.getElem?_set_ne (fun e => hj2 e.symm)] at hx
  by_cases hj : j = i
  · subst hj
    rw [List.getElem?_set] at hx
    split at hx
    · split at hx
      · cases hx; exact h.2.2 (j, cv κ v) List.mem_cons_self
      · cases hx
    · rename_i h9; exact absurd rfl h9
  · rw [List.getElem?_set_ne (fun e => hj e.symm)] at hx
    refine h.2.2 (j, cv κ x) (List.mem_cons_of_mem _ (List.mem_filter.mpr ⟨aL_in hx, ?_⟩))
    simp only [Bool.and_eq_true, Bool.not_eq_true', beq_eq_false_iff_ne, ne_eq]
    refine ⟨hj, hj2, ?_⟩
    rw [Bool.and_eq_false_iff]
    by_cases h1 : j + 1 = i
    · right
      rw [beq_eq_false_iff_ne]
      intro h2
      obtain ⟨n, rfl⟩ := cat_cv h2
      subst h1
      simp [pL, hx] at hp
    · left; simpa using h1
theorem G_istore_n {q : Fin 4} {x : Int} (i : Nat) (hi : (q : Nat) = i) (hn : i < M.2.2.1) (hp : pL L i = true) (hd : decode M.2.1 pc = .ok (.istore_n q, 1)) (k : Go κ M E (pc + 1) (L.set i (some (vi x))) st σ) : Go κ M E pc L (vi x :: st) σ := by
  intro p e s m args below meth c H locs ls F hE hS hW hL
  exact lv_istore_n F.1 F.2.1 hd hi hL.has hn rfl (fun ls' h' => k p e s m args below meth c H locs ls' F hE hS hW (Lr.set1 (v := vi x) hp h'))
theorem G_istore_w {x : Int} (i : Nat) (hn : i < M.2.2.1) (hp : pL L i = true) (hd : decode M.2.1 pc = .ok (.istore i, 2)) (k : Go κ M E (pc + 2) (L.set i (some (vi x))) st σ) : Go κ M E pc L (vi x :: st) σ := by
  intro p e s m args below meth c H locs ls F hE hS hW hL
  exact lv_istore F.1 F.2.1 hd hL.has hn rfl (fun ls' h' => k p e s m args below meth c H locs ls' F hE hS hW (Lr.set1 (v := vi x) hp h'))
theorem G_astore_n {q : Fin 4} {x : Nat} (i : Nat) (hi : (q : Nat) = i) (hn : i < M.2.2.1) (hp : pL L i = true) (hd : decode M.2.1 pc = .ok (.astore_n q, 1)) (k : Go κ M E (pc + 1) (L.set i (some (vr x))) st σ) : Go κ M E pc L (vr x :: st) σ := by
  intro p e s m args below meth c H locs ls F hE hS hW hL
  exact lv_astore_n F.1 F.2.1 hd hi hL.has hn rfl (fun ls' h' => k p e s m args below meth c H locs ls' F hE hS hW (Lr.set1 (v := vr x) hp h'))
theorem G_astore_w {x : Nat} (i : Nat) (hn : i < M.2.2.1) (hp : pL L i = true) (hd : decode M.2.1 pc = .ok (.astore i, 2)) (k : Go κ M E (pc + 2) (L.set i (some (vr x))) st σ) : Go κ M E pc L (vr x :: st) σ := by
  intro p e s m args below meth c H locs ls F hE hS hW hL
  exact lv_astore F.1 F.2.1 hd hL.has hn rfl (fun ls' h' => k p e s m args below meth c H locs ls' F hE hS hW (Lr.set1 (v := vr x) hp h'))
theorem G_lstore_n {q : Fin 4} {x : Int} (i : Nat) (hi : (q : Nat) = i) (hn : i + 1 < M.2.2.1) (hp : pL L i = true) (hd : decode M.2.1 pc = .ok (.lstore_n q, 1)) (k : Go κ M E (pc + 1) ((L.set i (some (vl x))).set (i + 1) none) st σ) : Go κ M E pc L (vl x :: st) σ := by
  intro p e s m args below meth c H locs ls F hE hS hW hL
  exact lv_lstore_n F.1 F.2.1 hd hi hL.has hn rfl (fun ls' h' => k p e s m args below meth c H locs ls' F hE hS hW (Lr.set2 (v := vl x) hp h'))
theorem G_lstore_w {x : Int} (i : Nat) (hn : i + 1 < M.2.2.1) (hp : pL L i = true) (hd : decode M.2.1 pc = .ok (.lstore i, 2)) (k : Go κ M E (pc + 2) ((L.set i (some (vl x))).set (i + 1) none) st σ) : Go κ M E pc L (vl x :: st) σ := by
  intro p e s m args below meth c H locs ls F hE hS hW hL
  exact lv_lstore F.1 F.2.1 hd hL.has hn rfl (fun ls' h' => k p e s m args below meth c H locs ls' F hE hS hW (Lr.set2 (v := vl x) hp h'))
theorem G_iinc_w {n x : Int} (i : Nat) (hl : L[i]? = some (some (vi x))) (hn : i < M.2.2.1) (hp : pL L i = true) (hd : decode M.2.1 pc = .ok (.iinc i n, 3)) (k : Go κ M E (pc + 3) (L.set i (some (vi (x + n)))) st σ) : Go κ M E pc L st σ := by
  intro p e s m args below meth c H locs ls F hE hS hW hL
  have h0 : (i, cv κ (vi x)) ∈ aL κ L := aL_in hl
  obtain ⟨j, hj⟩ := List.getElem?_of_mem h0
  refine lv_iinc (v := Int32.ofInt (x + n)) F.1 F.2.1 hd hL.has (k := j) hj (Int32.ofInt_add x n).symm hn rfl (fun ls' h' => k p e s m args below meth c H locs ls' F hE hS hW (Lr.set1 (v := vi (x + n)) hp h'))
theorem G_iadd {x y : Int} (hd : decode M.2.1 pc = .ok (.iadd, 1)) (k : Go κ M E (pc + 1) L (vi (x + y) :: st) σ) : Go κ M E pc L (vi y :: vi x :: st) σ := by
  intro p e s m args below meth c H locs ls F hE hS hW hL
  have h2 := k p e s m args below meth c H locs ls F hE hS hW hL
  refine lv_iadd (x := Int32.ofInt x) (y := Int32.ofInt y) F.1 F.2.1 hd ?_
  rw [← Int32.ofInt_add]; exact h2
theorem G_isub {x y : Int} (hd : decode M.2.1 pc = .ok (.isub, 1)) (k : Go κ M E (pc + 1) L (vi (x - y) :: st) σ) : Go κ M E pc L (vi y :: vi x :: st) σ := by
  intro p e s m args below meth c H locs ls F hE hS hW hL
  have h2 := k p e s m args below meth c H locs ls F hE hS hW hL
  refine lv_isub (x := Int32.ofInt x) (y := Int32.ofInt y) F.1 F.2.1 hd ?_
  rw [← Int32.ofInt_sub]; exact h2
theorem G_imul {x y : Int} (hd : decode M.2.1 pc = .ok (.imul, 1)) (k : Go κ M E (pc + 1) L (vi (x * y) :: st) σ) : Go κ M E pc L (vi y :: vi x :: st) σ := by
  intro p e s m args below meth c H locs ls F hE hS hW hL
  have h2 := k p e s m args below meth c H locs ls F hE hS hW hL
  refine lv_imul (x := Int32.ofInt x) (y := Int32.ofInt y) F.1 F.2.1 hd ?_
  rw [← Int32.ofInt_mul]; exact h2
theorem G_ineg {x : Int} (hd : decode M.2.1 pc = .ok (.ineg, 1)) (k : Go κ M E (pc + 1) L (vi (-x) :: st) σ) : Go κ M E pc L (vi x :: st) σ := by
  intro p e s m args below meth c H locs ls F hE hS hW hL
  have h2 := k p e s m args below meth c H locs ls F hE hS hW hL
  refine lv_ineg (x := Int32.ofInt x) F.1 F.2.1 hd ?_
  first | exact h2 | (rw [← Int32.ofInt_neg]; exact h2) | (rw [Int32.zero_sub, ← Int32.ofInt_neg]; exact h2)
theorem G_ladd {x y : Int} (hd : decode M.2.1 pc = .ok (.ladd, 1)) (k : Go κ M E (pc + 1) L (vl (x + y) :: st) σ) : Go κ M E pc L (vl y :: vl x :: st) σ := by
  intro p e s m args below meth c H locs ls F hE hS hW hL
  have h2 := k p e s m args below meth c H locs ls F hE hS hW hL
  refine lv_ladd (x := Int64.ofInt x) (y := Int64.ofInt y) F.1 F.2.1 hd ?_
  rw [← Int64.ofInt_add]; exact h2
theorem G_lsub {x y : Int} (hd : decode M.2.1 pc = .ok (.lsub, 1)) (k : Go κ M E (pc + 1) L (vl (x - y) :: st) σ) : Go κ M E pc L (vl y :: vl x :: st) σ := by
  intro p e s m args below meth c H locs ls F hE hS hW hL
  have h2 := k p e s m args below meth c H locs ls F hE hS hW hL
  refine lv_lsub (x := Int64.ofInt x) (y := Int64.ofInt y) F.1 F.2.1 hd ?_
  rw [← Int64.ofInt_sub]; exact h2
theorem G_lmul {x y : Int} (hd : decode M.2.1 pc = .ok (.lmul, 1)) (k : Go κ M E (pc + 1) L (vl (x * y) :: st) σ) : Go κ M E pc L (vl y :: vl x :: st) σ := by
  intro p e s m args below meth c H locs ls F hE hS hW hL
  have h2 := k p e s m args below meth c H locs ls F hE hS hW hL
  refine lv_lmul (x := Int64.ofInt x) (y := Int64.ofInt y) F.1 F.2.1 hd ?_
  rw [← Int64.ofInt_mul]; exact h2
theorem cat1 {v : AV} (h : ∀ n, v ≠ .inr (.inl n)) : (cv κ v).category = 1 := by
  match v with
  | .inl n => rfl
  | .inr (.inl n) => exact absurd rfl (h n)
  | .inr (.inr none) => rfl
  | .inr (.inr (some k)) => rfl
theorem G_dup {v : AV} (hd : decode M.2.1 pc = .ok (.dup, 1)) (hv : ∀ n, v ≠ .inr (.inl n)) (k : Go κ M E (pc + 1) L (v :: v :: st) σ) : Go κ M E pc L (v :: st) σ := by
  intro p e s m args below meth c H locs ls F hE hS hW hL
  exact lv_dup F.1 F.2.1 hd (cat1 hv) (k p e s m args below meth c H locs ls F hE hS hW hL)
theorem G_dup2 {v u : AV} (hd : decode M.2.1 pc = .ok (.dup2, 1)) (hv : ∀ n, v ≠ .inr (.inl n)) (hu : ∀ n, u ≠ .inr (.inl n)) (k : Go κ M E (pc + 1) L (v :: u :: v :: u :: st) σ) : Go κ M E pc L (v :: u :: st) σ := by
  intro p e s m args below meth c H locs ls F hE hS hW hL
  exact lv_dup2_11 F.1 F.2.1 hd (cat1 hv) (cat1 hu) (k p e s m args below meth c H locs ls F hE hS hW hL)
theorem G_pop {v : AV} (hd : decode M.2.1 pc = .ok (.pop, 1)) (hv : ∀ n, v ≠ .inr (.inl n)) (k : Go κ M E (pc + 1) L st σ) : Go κ M E pc L (v :: st) σ := by
  intro p e s m args below meth c H locs ls F hE hS hW hL
  exact lv_pop F.1 F.2.1 hd (cat1 hv) (k p e s m args below meth c H locs ls F hE hS hW hL)
theorem G_goto {off : Int} {tgt : Nat} (hd : decode M.2.1 pc = .ok (.goto off, 3)) (ht : (pc : Int) + off = (tgt : Int)) (k : Go κ M E tgt L st σ) : Go κ M E pc L st σ := by
  intro p e s m args below meth c H locs ls F hE hS hW hL
  exact lv_goto F.1 F.2.1 hd ht (k p e s m args below meth c H locs ls F hE hS hW hL)
-- branches
theorem G_icmp_eq {x y : Int} {off : Int} {tgt : Nat} (hd : decode M.2.1 pc = .ok (.if_icmp .eq off, 3)) (hr : (-2147483648 ≤ x ∧ x < 2147483648) ∧ (-2147483648 ≤ y ∧ y < 2147483648)) (ht : (pc : Int) + off = (tgt : Int)) (kt : x = y → Go κ M E tgt L st σ) (kf : ¬ (x = y) → Go κ M E (pc + 3) L st σ) : Go κ M E pc L (vi y :: vi x :: st) σ := by
  intro p e s m args below meth c H locs ls F hE hS hW hL
  refine lv_icmp_eq (x := Int32.ofInt x) (y := Int32.ofInt y) F.1 F.2.1 hd ht (fun h => ?_) (fun h => ?_)
  · refine kt ?_ p e s m args below meth c H locs ls F hE hS hW hL
    simpa [i32_eq hr.1 hr.2, i32_lt hr.1 hr.2, i32_le hr.1 hr.2, i32_lt hr.2 hr.1, i32_le hr.2 hr.1] using h
  · refine kf ?_ p e s m args below meth c H locs ls F hE hS hW hL
    simpa [i32_eq hr.1 hr.2, i32_lt hr.1 hr.2, i32_le hr.1 hr.2, i32_lt hr.2 hr.1, i32_le hr.2 hr.1] using h
theorem G_icmp_ne {x y : Int} {off : Int} {tgt : Nat} (hd : decode M.2.1 pc = .ok (.if_icmp .ne off, 3)) (hr : (-2147483648 ≤ x ∧ x < 2147483648) ∧ (-2147483648 ≤ y ∧ y < 2147483648)) (ht : (pc : Int) + off = (tgt : Int)) (kt : x ≠ y → Go κ M E tgt L st σ) (kf : ¬ (x ≠ y) → Go κ M E (pc + 3) L st σ) : Go κ M E pc L (vi y :: vi x :: st) σ := by
  intro p e s m args below meth c H locs ls F hE hS hW hL
  refine lv_icmp_ne (x := Int32.ofInt x) (y := Int32.ofInt y) F.1 F.2.1 hd ht (fun h => ?_) (fun h => ?_)
  · refine kt ?_ p e s m args below meth c H locs ls F hE hS hW hL
    simpa [i32_eq hr.1 hr.2, i32_lt hr.1 hr.2, i32_le hr.1 hr.2, i32_lt hr.2 hr.1, i32_le hr.2 hr.1] using h
  · refine kf ?_ p e s m args below meth c H locs ls F hE hS hW hL
    simpa [i32_eq hr.1 hr.2, i32_lt hr.1 hr.2, i32_le hr.1 hr.2, i32_lt hr.2 hr.1, i32_le hr.2 hr.1] using h
theorem G_icmp_lt {x y : Int} {off : Int} {tgt : Nat} (hd : decode M.2.1 pc = .ok (.if_icmp .lt off, 3)) (hr : (-2147483648 ≤ x ∧ x < 2147483648) ∧ (-2147483648 ≤ y ∧ y < 2147483648)) (ht : (pc : Int) + off = (tgt : Int)) (kt : x < y → Go κ M E tgt L st σ) (kf : ¬ (x < y) → Go κ M E (pc + 3) L st σ) : Go κ M E pc L (vi y :: vi x :: st) σ := by
  intro p e s m args below meth c H locs ls F hE hS hW hL
  refine lv_icmp_lt (x := Int32.ofInt x) (y := Int32.ofInt y) F.1 F.2.1 hd ht (fun h => ?_) (fun h => ?_)
  · refine kt ?_ p e s m args below meth c H locs ls F hE hS hW hL
    simpa [i32_eq hr.1 hr.2, i32_lt hr.1 hr.2, i32_le hr.1 hr.2, i32_lt hr.2 hr.1, i32_le hr.2 hr.1] using h
  · refine kf ?_ p e s m args below meth c H locs ls F hE hS hW hL
    simpa [i32_eq hr.1 hr.2, i32_lt hr.1 hr.2, i32_le hr.1 hr.2, i32_lt hr.2 hr.1, i32_le hr.2 hr.1] using h
theorem G_icmp_ge {x y : Int} {off : Int} {tgt : Nat} (hd : decode M.2.1 pc = .ok (.if_icmp .ge off, 3)) (hr : (-2147483648 ≤ x ∧ x < 2147483648) ∧ (-2147483648 ≤ y ∧ y < 2147483648)) (ht : (pc : Int) + off = (tgt : Int)) (kt : y ≤ x → Go κ M E tgt L st σ) (kf : ¬ (y ≤ x) → Go κ M E (pc + 3) L st σ) : Go κ M E pc L (vi y :: vi x :: st) σ := by
  intro p e s m args below meth c H locs ls F hE hS hW hL
  refine lv_icmp_ge (x := Int32.ofInt x) (y := Int32.ofInt y) F.1 F.2.1 hd ht (fun h => ?_) (fun h => ?_)
  · refine kt ?_ p e s m args below meth c H locs ls F hE hS hW hL
    simpa [i32_eq hr.1 hr.2, i32_lt hr.1 hr.2, i32_le hr.1 hr.2, i32_lt hr.2 hr.1, i32_le hr.2 hr.1] using h
  · refine kf ?_ p e s m args below meth c H locs ls F hE hS hW hL
    simpa [i32_eq hr.1 hr.2, i32_lt hr.1 hr.2, i32_le hr.1 hr.2, i32_lt hr.2 hr.1, i32_le hr.2 hr.1] using h
theorem G_icmp_gt {x y : Int} {off : Int} {tgt : Nat} (hd : decode M.2.1 pc = .ok (.if_icmp .gt off, 3)) (hr : (-2147483648 ≤ x ∧ x < 2147483648) ∧ (-2147483648 ≤ y ∧ y < 2147483648)) (ht : (pc : Int) + off = (tgt : Int)) (kt : y < x → Go κ M E tgt L st σ) (kf : ¬ (y < x) → Go κ M E (pc + 3) L st σ) : Go κ M E pc L (vi y :: vi x :: st) σ := by
  intro p e s m args below meth c H locs ls F hE hS hW hL
  refine lv_icmp_gt (x := Int32.ofInt x) (y := Int32.ofInt y) F.1 F.2.1 hd ht (fun h => ?_) (fun h => ?_)
  · refine kt ?_ p e s m args below meth c H locs ls F hE hS hW hL
    simpa [i32_eq hr.1 hr.2, i32_lt hr.1 hr.2, i32_le hr.1 hr.2, i32_lt hr.2 hr.1, i32_le hr.2 hr.1] using h
  · refine kf ?_ p e s m args below meth c H locs ls F hE hS hW hL
    simpa [i32_eq hr.1 hr.2, i32_lt hr.1 hr.2, i32_le hr.1 hr.2, i32_lt hr.2 hr.1, i32_le hr.2 hr.1] using h
theorem G_icmp_le {x y : Int} {off : Int} {tgt : Nat} (hd : decode M.2.1 pc = .ok (.if_icmp .le off, 3)) (hr : (-2147483648 ≤ x ∧ x < 2147483648) ∧ (-2147483648 ≤ y ∧ y < 2147483648)) (ht : (pc : Int) + off = (tgt : Int)) (kt : x ≤ y → Go κ M E tgt L st σ) (kf : ¬ (x ≤ y) → Go κ M E (pc + 3) L st σ) : Go κ M E pc L (vi y :: vi x :: st) σ := by
  intro p e s m args below meth c H locs ls F hE hS hW hL
  refine lv_icmp_le (x := Int32.ofInt x) (y := Int32.ofInt y) F.1 F.2.1 hd ht (fun h => ?_) (fun h => ?_)
  · refine kt ?_ p e s m args below meth c H locs ls F hE hS hW hL
    simpa [i32_eq hr.1 hr.2, i32_lt hr.1 hr.2, i32_le hr.1 hr.2, i32_lt hr.2 hr.1, i32_le hr.2 hr.1] using h
  · refine kf ?_ p e s m args below meth c H locs ls F hE hS hW hL
    simpa [i32_eq hr.1 hr.2, i32_lt hr.1 hr.2, i32_le hr.1 hr.2, i32_lt hr.2 hr.1, i32_le hr.2 hr.1] using h
theorem G_if_eq {x : Int} {off : Int} {tgt : Nat} (hd : decode M.2.1 pc = .ok (.ifCond .eq off, 3)) (hr : -2147483648 ≤ x ∧ x < 2147483648) (ht : (pc : Int) + off = (tgt : Int)) (kt : x = 0 → Go κ M E tgt L st σ) (kf : ¬ (x = 0) → Go κ M E (pc + 3) L st σ) : Go κ M E pc L (vi x :: st) σ := by
  intro p e s m args below meth c H locs ls F hE hS hW hL
  have h0 : -2147483648 ≤ (0 : Int) ∧ (0 : Int) < 2147483648 := by decide
  refine lv_if_eq (x := Int32.ofInt x) F.1 F.2.1 hd ht (fun h => ?_) (fun h => ?_)
  · refine kt ?_ p e s m args below meth c H locs ls F hE hS hW hL
    exact (i32_eq hr h0).mp h
  · refine kf ?_ p e s m args below meth c H locs ls F hE hS hW hL
    exact fun q => h ((i32_eq hr h0).mpr q)
theorem G_if_ne {x : Int} {off : Int} {tgt : Nat} (hd : decode M.2.1 pc = .ok (.ifCond .ne off, 3)) (hr : -2147483648 ≤ x ∧ x < 2147483648) (ht : (pc : Int) + off = (tgt : Int)) (kt : x ≠ 0 → Go κ M E tgt L st σ) (kf : ¬ (x ≠ 0) → Go κ M E (pc + 3) L st σ) : Go κ M E pc L (vi x :: st) σ := by
  intro p e s m args below meth c H locs ls F hE hS hW hL
  have h0 : -2147483648 ≤ (0 : Int) ∧ (0 : Int) < 2147483648 := by decide
  refine lv_if_ne (x := Int32.ofInt x) F.1 F.2.1 hd ht (fun h => ?_) (fun h => ?_)
  · refine kt ?_ p e s m args below meth c H locs ls F hE hS hW hL
    exact fun q => h ((i32_eq hr h0).mpr q)
  · refine kf ?_ p e s m args below meth c H locs ls F hE hS hW hL
    exact fun q => q ((i32_eq hr h0).mp h)
theorem G_if_lt {x : Int} {off : Int} {tgt : Nat} (hd : decode M.2.1 pc = .ok (.ifCond .lt off, 3)) (hr : -2147483648 ≤ x ∧ x < 2147483648) (ht : (pc : Int) + off = (tgt : Int)) (kt : x < 0 → Go κ M E tgt L st σ) (kf : ¬ (x < 0) → Go κ M E (pc + 3) L st σ) : Go κ M E pc L (vi x :: st) σ := by
  intro p e s m args below meth c H locs ls F hE hS hW hL
  have h0 : -2147483648 ≤ (0 : Int) ∧ (0 : Int) < 2147483648 := by decide
  refine lv_if_lt (x := Int32.ofInt x) F.1 F.2.1 hd ht (fun h => ?_) (fun h => ?_)
  · refine kt ?_ p e s m args below meth c H locs ls F hE hS hW hL
    exact (i32_lt hr h0).mp h
  · refine kf ?_ p e s m args below meth c H locs ls F hE hS hW hL
    exact fun q => h ((i32_lt hr h0).mpr q)
theorem G_if_ge {x : Int} {off : Int} {tgt : Nat} (hd : decode M.2.1 pc = .ok (.ifCond .ge off, 3)) (hr : -2147483648 ≤ x ∧ x < 2147483648) (ht : (pc : Int) + off = (tgt : Int)) (kt : 0 ≤ x → Go κ M E tgt L st σ) (kf : ¬ (0 ≤ x) → Go κ M E (pc + 3) L st σ) : Go κ M E pc L (vi x :: st) σ := by
  intro p e s m args below meth c H locs ls F hE hS hW hL
  have h0 : -2147483648 ≤ (0 : Int) ∧ (0 : Int) < 2147483648 := by decide
  refine lv_if_ge (x := Int32.ofInt x) F.1 F.2.1 hd ht (fun h => ?_) (fun h => ?_)
  · refine kt ?_ p e s m args below meth c H locs ls F hE hS hW hL
    exact (i32_le h0 hr).mp h
  · refine kf ?_ p e s m args below meth c H locs ls F hE hS hW hL
    exact fun q => h ((i32_le h0 hr).mpr q)
theorem G_if_gt {x : Int} {off : Int} {tgt : Nat} (hd : decode M.2.1 pc = .ok (.ifCond .gt off, 3)) (hr : -2147483648 ≤ x ∧ x < 2147483648) (ht : (pc : Int) + off = (tgt : Int)) (kt : 0 < x → Go κ M E tgt L st σ) (kf : ¬ (0 < x) → Go κ M E (pc + 3) L st σ) : Go κ M E pc L (vi x :: st) σ := by
  intro p e s m args below meth c H locs ls F hE hS hW hL
  have h0 : -2147483648 ≤ (0 : Int) ∧ (0 : Int) < 2147483648 := by decide
  refine lv_if_gt (x := Int32.ofInt x) F.1 F.2.1 hd ht (fun h => ?_) (fun h => ?_)
  · refine kt ?_ p e s m args below meth c H locs ls F hE hS hW hL
    exact (i32_lt h0 hr).mp h
  · refine kf ?_ p e s m args below meth c H locs ls F hE hS hW hL
    exact fun q => h ((i32_lt h0 hr).mpr q)
theorem G_if_le {x : Int} {off : Int} {tgt : Nat} (hd : decode M.2.1 pc = .ok (.ifCond .le off, 3)) (hr : -2147483648 ≤ x ∧ x < 2147483648) (ht : (pc : Int) + off = (tgt : Int)) (kt : x ≤ 0 → Go κ M E tgt L st σ) (kf : ¬ (x ≤ 0) → Go κ M E (pc + 3) L st σ) : Go κ M E pc L (vi x :: st) σ := by
  intro p e s m args below meth c H locs ls F hE hS hW hL
  have h0 : -2147483648 ≤ (0 : Int) ∧ (0 : Int) < 2147483648 := by decide
  refine lv_if_le (x := Int32.ofInt x) F.1 F.2.1 hd ht (fun h => ?_) (fun h => ?_)
  · refine kt ?_ p e s m args below meth c H locs ls F hE hS hW hL
    exact (i32_le hr h0).mp h
  · refine kf ?_ p e s m args below meth c H locs ls F hE hS hW hL
    exact fun q => h ((i32_le hr h0).mpr q)
theorem G_tblO {dflt lo hi : Int} {offs : Array Int} {len : Nat} {x : Int} {tgt : Nat} (hd : decode M.2.1 pc = .ok (.tableswitch dflt lo hi offs, len)) (hr : -2147483648 ≤ x ∧ x < 2147483648) (h : x < lo ∨ hi < x) (ht : (pc : Int) + dflt = (tgt : Int)) (k : Go κ M E tgt L st σ) : Go κ M E pc L (vi x :: st) σ := by
  intro p e s m args below meth c H locs ls F hE hS hW hL
  exact lv_tableOut (x := Int32.ofInt x) F.1 F.2.1 hd (by rw [i32_t hr]; exact h) ht (k p e s m args below meth c H locs ls F hE hS hW hL)
theorem G_tblI {dflt lo hi : Int} {offs : Array Int} {len : Nat} {x off : Int} {tgt : Nat} (v : Int) (hx : x = v) (hd : decode M.2.1 pc = .ok (.tableswitch dflt lo hi offs, len)) (hr : -2147483648 ≤ v ∧ v < 2147483648) (h1 : ¬ v < lo) (h2 : ¬ hi < v) (ho : offs[(v - lo).toNat]? = some off) (ht : (pc : Int) + off = (tgt : Int)) (k : Go κ M E tgt L st σ) : Go κ M E pc L (vi x :: st) σ := by
  intro p e s m args below meth c H locs ls F hE hS hW hL
  subst hx
  exact lv_tableIn (x := Int32.ofInt x) F.1 F.2.1 hd (by rw [i32_t hr]; exact h1) (by rw [i32_t hr]; exact h2) (by rw [i32_t hr]; exact ho) ht (k p e s m args below meth c H locs ls F hE hS hW hL)
end GoRows
