/-! numbers, and what the machine keeps of them -/
def inR (n : Int) : Prop := -2147483648 ≤ n ∧ n < 2147483648
def inJ (n : Int) : Prop := -9223372036854775808 ≤ n ∧ n < 9223372036854775808
def inZ (n : Int) : Prop := n = 0 ∨ n = 1
theorem inRk (n : Int) (h : (decide (-2147483648 ≤ n) && decide (n < 2147483648)) = true) : inR n := by
  simp only [Bool.and_eq_true, decide_eq_true_eq] at h; exact h
theorem inJk (n : Int) (h : (decide (-9223372036854775808 ≤ n) && decide (n < 9223372036854775808)) = true) : inJ n := by
  simp only [Bool.and_eq_true, decide_eq_true_eq] at h; exact h
theorem inZ0 : inZ 0 := Or.inl rfl
theorem inZ1 : inZ 1 := Or.inr rfl
theorem inZ.R {n : Int} (h : inZ n) : inR n := by rcases h with rfl | rfl <;> exact ⟨by decide, by decide⟩
theorem inR.J {n : Int} (h : inR n) : inJ n := by unfold inR at h; unfold inJ; omega
theorem wrR (n : Int) : inR (wr n) := wr_in n
theorem wrE {n : Int} (h : inR n) : wr n = n := wr_id h
def wrJ (n : Int) : Int := n.bmod 18446744073709551616
theorem wrJR (n : Int) : inJ (wrJ n) := by
  unfold wrJ inJ
  have h1 := Int.le_bmod (x := n) (m := 18446744073709551616) (by decide)
  have h2 := Int.bmod_lt (x := n) (m := 18446744073709551616) (by decide)
  omega
theorem wrJ_of (n : Int) : Int64.ofInt n = Int64.ofInt (wrJ n) := by
  apply Int64.toInt_inj.mp
  rw [Int64.toInt_ofInt, Int64.toInt_ofInt, wrJ]
  simp [Int64.size]
theorem wrJE {n : Int} (h : inJ n) : wrJ n = n := by
  have h1 := i64_t h
  have h2 := i64_t (wrJR n)
  rw [← wrJ_of] at h2
  rw [← h2, h1]
/-- x and x' are one int, x' in its bounds -/
def nm (x x' : Int) : Prop := inR x' ∧ Int32.ofInt x = Int32.ofInt x'
theorem nmI {x : Int} (h : inR x) : nm x x := ⟨h, rfl⟩
theorem nmW (x : Int) : nm x (wr x) := ⟨wrR x, wr_of x⟩
def nmj (x x' : Int) : Prop := inJ x' ∧ Int64.ofInt x = Int64.ofInt x'
theorem nmjI {x : Int} (h : inJ x) : nmj x x := ⟨h, rfl⟩
theorem nmjW (x : Int) : nmj x (wrJ x) := ⟨wrJR x, wrJ_of x⟩
theorem toR (x : Int32) : inR x.toInt := ⟨by have := x.le_toInt; omega, by have := x.toInt_lt; omega⟩
/-! bits -/
def bAnd (x y : Int) : Int := (Int32.ofInt x &&& Int32.ofInt y).toInt
def bOr (x y : Int) : Int := (Int32.ofInt x ||| Int32.ofInt y).toInt
def bXor (x y : Int) : Int := (Int32.ofInt x ^^^ Int32.ofInt y).toInt
def bShl (x y : Int) : Int := (Int32.ofInt x <<< (Int32.ofInt y &&& 31)).toInt
def bShr (x y : Int) : Int := (Int32.ofInt x >>> (Int32.ofInt y &&& 31)).toInt
def bUsh (x y : Int) : Int := ((Int32.ofInt x).toUInt32 >>> ((Int32.ofInt y).toUInt32 &&& Int32.toUInt32 31)).toInt32.toInt
def cmpJ (x y : Int) : Int := if y < x then 1 else if x = y then 0 else -1
theorem cmpJ_R (x y : Int) : inR (cmpJ x y) := by
  unfold cmpJ inR
  split
  · omega
  · split <;> omega
theorem tmodR {x y : Int} (h : inR x) : inR (x.tmod y) := by
  unfold inR at h ⊢
  rcases Int.le_total 0 x with h0 | h0
  · have h1 := Int.tmod_nonneg y h0
    have h2 : x.tmod y ≤ x := by
      obtain ⟨n, rfl⟩ := Int.eq_ofNat_of_zero_le h0
      rcases Int.le_total 0 y with hy | hy
      · obtain ⟨m, rfl⟩ := Int.eq_ofNat_of_zero_le hy
        have := Nat.mod_le n m
        rw [← Int.ofNat_tmod]; omega
      · obtain ⟨m, hm⟩ := Int.eq_ofNat_of_zero_le (show 0 ≤ -y by omega)
        have e : (n : Int).tmod y = (n : Int).tmod m := by rw [show y = -(m : Int) by omega, Int.tmod_neg]
        have := Nat.mod_le n m
        rw [e, ← Int.ofNat_tmod]; omega
    omega
  · obtain ⟨n, hn⟩ := Int.eq_ofNat_of_zero_le (show 0 ≤ -x by omega)
    have e : x.tmod y = -((n : Int).tmod y) := by rw [show x = -(n : Int) by omega, Int.neg_tmod]
    have h1 := Int.tmod_nonneg y (show (0 : Int) ≤ (n : Int) by omega)
    have h2 : (n : Int).tmod y ≤ n := by
      rcases Int.le_total 0 y with hy | hy
      · obtain ⟨m, rfl⟩ := Int.eq_ofNat_of_zero_le hy
        have := Nat.mod_le n m
        rw [← Int.ofNat_tmod]; omega
      · obtain ⟨m, hm⟩ := Int.eq_ofNat_of_zero_le (show 0 ≤ -y by omega)
        have e : (n : Int).tmod y = (n : Int).tmod m := by rw [show y = -(m : Int) by omega, Int.tmod_neg]
        have := Nat.mod_le n m
        rw [e, ← Int.ofNat_tmod]; omega
    omega
theorem tdivR {x y : Int} (h : inR x) (hy : 0 < y) : inR (x.tdiv y) := by
  unfold inR at h ⊢
  obtain ⟨m, rfl⟩ := Int.eq_ofNat_of_zero_le (Int.le_of_lt hy)
  rcases Int.le_total 0 x with h0 | h0
  · obtain ⟨n, rfl⟩ := Int.eq_ofNat_of_zero_le h0
    have h5 := Nat.div_le_self n m
    rw [← Int.ofNat_tdiv]
    generalize n / m = z at h5 ⊢
    omega
  · obtain ⟨n, hn⟩ := Int.eq_ofNat_of_zero_le (show 0 ≤ -x by omega)
    have h5 := Nat.div_le_self n m
    rw [show x = -(n : Int) by omega, Int.neg_tdiv, ← Int.ofNat_tdiv]
    generalize n / m = z at h5 ⊢
    omega
/-! pure runs -/
def okS (σ : Sg) : Prop := ∀ k j, inR (σ k j)
theorem okS_su {σ : Sg} {k j : Nat} {v : Int} (h : okS σ) (hv : inR v) : okS (su σ k j v) := by
  intro a b; unfold su; split
  · exact hv
  · exact h a b
def cpy (σ : Sg) (a b : Nat) (n : Int) : Sg := fun k j => if k = b ∧ (j : Int) < n then σ a j else σ k j
theorem okS_cpy {σ : Sg} {a b : Nat} {n : Int} (h : okS σ) : okS (cpy σ a b n) := by
  intro k j; unfold cpy; split
  · exact h a j
  · exact h k j
def ix {α : Type} (i n : Int) (o : Option α) : Option α := if 0 ≤ i ∧ i < n then o else none
def nzd {α : Type} (y : Int) (o : Option α) : Option α := if y = 0 then none else o
def zb {α : Type} (v : Int) (o : Option α) : Option α := if v = 0 ∨ v = 1 then o else none
def ll {α β : Type} (v : α) (f : α → Option β) : Option β := f v
def tk (t : Nat) : Bool := (lay t == (1, 6)) && decide (t < 172)
def isT {α : Type} (t : Nat) (o : Option α) : Option α := if tk t = true then o else none
def b1 {α β : Type} (o : Option α) (f : α → Option β) : Option β := o.bind f
def b2 {α β γ : Type} (o : Option (α × β)) (f : α → β → Option γ) : Option γ := o.bind (fun p => f p.1 p.2)
def b3 {α β γ δ : Type} (o : Option (α × β × γ)) (f : α → β → γ → Option δ) : Option δ := o.bind (fun p => f p.1 p.2.1 p.2.2)
def b4 {α β γ δ ε : Type} (o : Option (α × β × γ × δ)) (f : α → β → γ → δ → Option ε) : Option ε := o.bind (fun p => f p.1 p.2.1 p.2.2.1 p.2.2.2)
/-- a loop by so many turns -/
def wlN {α β : Type} (B : α → Option (α ⊕ β)) : Nat → α → Option β
  | 0, _ => none
  | n + 1, a => match B a with
    | none => none
    | some (.inl a') => wlN B n a'
    | some (.inr b) => some b
theorem wlN_det {α β : Type} {B : α → Option (α ⊕ β)} : ∀ (n m : Nat) (a : α) (b b' : β), wlN B n a = some b → wlN B m a = some b' → b = b'
  | 0, _, _, _, _, h, _ => by cases h
  | n + 1, 0, _, _, _, _, h => by cases h
  | n + 1, m + 1, a, b, b', h1, h2 => by
    unfold wlN at h1 h2
    cases hB : B a with
    | none => rw [hB] at h1; cases h1
    | some r =>
      rw [hB] at h1 h2
      cases r with
      | inl a' => exact wlN_det n m a' b b' h1 h2
      | inr c => cases h1; cases h2; rfl
/-- a loop: what it comes to, if it ends -/
noncomputable def wl {α β : Type} (B : α → Option (α ⊕ β)) (a : α) : Option β :=
  @dite _ (∃ b n, wlN B n a = some b) (Classical.propDecidable _) (fun h => some (Classical.choose h)) (fun _ => none)
theorem wl_iff {α β : Type} {B : α → Option (α ⊕ β)} {a : α} {b : β} : wl B a = some b ↔ ∃ n, wlN B n a = some b := by
  unfold wl
  by_cases h : ∃ b n, wlN B n a = some b
  · rw [dif_pos h]
    obtain ⟨n, hn⟩ := Classical.choose_spec h
    constructor
    · intro e; cases e; exact ⟨n, hn⟩
    · rintro ⟨m, hm⟩; rw [wlN_det n m a _ _ hn hm]
  · rw [dif_neg h]
    constructor
    · intro e; cases e
    · rintro ⟨m, hm⟩; exact absurd ⟨b, m, hm⟩ h
theorem wl_none {α β : Type} {B : α → Option (α ⊕ β)} {a : α} (h : ∀ b, wl B a ≠ some b) : wl B a = none := by
  cases e : wl B a with
  | none => rfl
  | some b => exact absurd e (h b)
def wlK {α β : Type} (f : α → Option β) (r : α ⊕ β) : Option β := match r with
  | .inl a => f a
  | .inr b => some b
theorem wl_eq {α β : Type} (B : α → Option (α ⊕ β)) (a : α) : wl B a = (B a).bind (wlK (wl B)) := by
  cases hB : B a with
  | none =>
    refine wl_none (fun b hb => ?_)
    obtain ⟨n, hn⟩ := wl_iff.mp hb
    cases n with
    | zero => cases hn
    | succ n => unfold wlN at hn; rw [hB] at hn; cases hn
  | some r =>
    cases r with
    | inl a' =>
      show wl B a = wl B a'
      cases h : wl B a' with
      | some b =>
        obtain ⟨n, hn⟩ := wl_iff.mp h
        exact wl_iff.mpr ⟨n + 1, by unfold wlN; rw [hB]; exact hn⟩
      | none =>
        refine wl_none (fun b hb => ?_)
        obtain ⟨n, hn⟩ := wl_iff.mp hb
        cases n with
        | zero => cases hn
        | succ n =>
          unfold wlN at hn; rw [hB] at hn
          have := wl_iff.mpr ⟨n, hn⟩
          rw [h] at this; cases this
    | inr b => exact wl_iff.mpr ⟨1, by unfold wlN; rw [hB]⟩
/-! the judgement: where the pure run o comes to a, and K a leads on, the machine goes -/
section RkRows
variable {κ : Kx} {M : Md} {E : En} {pc : Nat} {L : List (Option AV)} {st : List AV} {σ : Sg}
def Rk (κ : Kx) (M : Md) (E : En) (pc : Nat) (L : List (Option AV)) (st : List AV) (σ : Sg) {α : Type} (o : Option α) (K : α → Prop) : Prop :=
  ∀ a, o = some a → K a → Go κ M E pc L st σ
variable {α : Type} {o o1 o2 : Option α} {K : α → Prop}
theorem Rk.sp {pc' : Nat} {L' : List (Option AV)} {st' : List AV} {σ' : Sg} (h : Go κ M E pc' L' st' σ' → Go κ M E pc L st σ) (k : Rk κ M E pc' L' st' σ' o K) : Rk κ M E pc L st σ o K := fun a ha hk => h (k a ha hk)
theorem Rk.end_ {a : α} (h : K a → Go κ M E pc L st σ) : Rk κ M E pc L st σ (some a) K := fun a' e hk => by cases e; exact h hk
theorem Rk.yes {c : Prop} {d : Decidable c} (h : c) (k : Rk κ M E pc L st σ o K) : Rk κ M E pc L st σ (@ite _ c d o none) K := fun a ha hk => k a (by rw [if_pos h] at ha; exact ha) hk
theorem Rk.chk {c : Prop} {d : Decidable c} (k : c → Rk κ M E pc L st σ o K) : Rk κ M E pc L st σ (@ite _ c d o none) K := fun a ha hk => by
  by_cases h : c
  · rw [if_pos h] at ha; exact k h a ha hk
  · rw [if_neg h] at ha; cases ha
theorem Rk.qnz {y : Int} (k : y ≠ 0 → Rk κ M E pc L st σ o K) : Rk κ M E pc L st σ (nzd y o) K := fun a ha hk => by
  unfold nzd at ha
  by_cases h : y = 0
  · rw [if_pos h] at ha; cases ha
  · rw [if_neg h] at ha; exact k h a ha hk
theorem Rk.qix {i n : Int} (k : (0 ≤ i ∧ i < n) → Rk κ M E pc L st σ o K) : Rk κ M E pc L st σ (ix i n o) K := Rk.chk k
theorem Rk.qzb {v : Int} (k : inZ v → Rk κ M E pc L st σ o K) : Rk κ M E pc L st σ (zb v o) K := Rk.chk k
theorem Rk.ite {c : Prop} {d : Decidable c} (k1 : c → Rk κ M E pc L st σ o1 K) (k2 : ¬ c → Rk κ M E pc L st σ o2 K) : Rk κ M E pc L st σ (@ite _ c d o1 o2) K := fun a ha hk => by
  by_cases h : c
  · rw [if_pos h] at ha; exact k1 h a ha hk
  · rw [if_neg h] at ha; exact k2 h a ha hk
theorem Go.stk {st' : List AV} (h : st.map (cv κ) = st'.map (cv κ)) (k : Go κ M E pc L st' σ) : Go κ M E pc L st σ := by
  intro p e s m args below meth c H locs ls F hE hS hW hL
  rw [h]; exact k p e s m args below meth c H locs ls F hE hS hW hL
theorem Go.n0 {x x' : Int} (h : nm x x') (k : Go κ M E pc L (vi x' :: st) σ) : Go κ M E pc L (vi x :: st) σ := Go.stk (by show Value.int (Int32.ofInt x) :: _ = Value.int (Int32.ofInt x') :: _; rw [h.2]) k
theorem Go.n1 {x x' : Int} {a : AV} (h : nm x x') (k : Go κ M E pc L (a :: vi x' :: st) σ) : Go κ M E pc L (a :: vi x :: st) σ := Go.stk (by show _ :: Value.int (Int32.ofInt x) :: _ = _ :: Value.int (Int32.ofInt x') :: _; rw [h.2]) k
theorem Go.n2 {x x' : Int} {a b : AV} (h : nm x x') (k : Go κ M E pc L (a :: b :: vi x' :: st) σ) : Go κ M E pc L (a :: b :: vi x :: st) σ := Go.stk (by show _ :: _ :: Value.int (Int32.ofInt x) :: _ = _ :: _ :: Value.int (Int32.ofInt x') :: _; rw [h.2]) k
theorem Go.n3 {x x' : Int} {a b c : AV} (h : nm x x') (k : Go κ M E pc L (a :: b :: c :: vi x' :: st) σ) : Go κ M E pc L (a :: b :: c :: vi x :: st) σ := Go.stk (by show _ :: _ :: _ :: Value.int (Int32.ofInt x) :: _ = _ :: _ :: _ :: Value.int (Int32.ofInt x') :: _; rw [h.2]) k
theorem Go.n4 {x x' : Int} {a b c d : AV} (h : nm x x') (k : Go κ M E pc L (a :: b :: c :: d :: vi x' :: st) σ) : Go κ M E pc L (a :: b :: c :: d :: vi x :: st) σ := Go.stk (by show _ :: _ :: _ :: _ :: Value.int (Int32.ofInt x) :: _ = _ :: _ :: _ :: _ :: Value.int (Int32.ofInt x') :: _; rw [h.2]) k
theorem Go.j0 {x x' : Int} (h : nmj x x') (k : Go κ M E pc L (vl x' :: st) σ) : Go κ M E pc L (vl x :: st) σ := Go.stk (by show Value.long (Int64.ofInt x) :: _ = Value.long (Int64.ofInt x') :: _; rw [h.2]) k
theorem Go.j1 {x x' : Int} {a : AV} (h : nmj x x') (k : Go κ M E pc L (a :: vl x' :: st) σ) : Go κ M E pc L (a :: vl x :: st) σ := Go.stk (by show _ :: Value.long (Int64.ofInt x) :: _ = _ :: Value.long (Int64.ofInt x') :: _; rw [h.2]) k
theorem Go.j2 {x x' : Int} {a b : AV} (h : nmj x x') (k : Go κ M E pc L (a :: b :: vl x' :: st) σ) : Go κ M E pc L (a :: b :: vl x :: st) σ := Go.stk (by show _ :: _ :: Value.long (Int64.ofInt x) :: _ = _ :: _ :: Value.long (Int64.ofInt x') :: _; rw [h.2]) k
/-- forgetting locals -/
def msk : List Bool → List (Option AV) → List (Option AV)
  | b :: bs, o :: L => (if b then o else none) :: msk bs L
  | _, _ => []
theorem msk_at {v : AV} : ∀ {bs : List Bool} {L : List (Option AV)} {i : Nat}, (msk bs L)[i]? = some (some v) → L[i]? = some (some v)
  | [], _, _, h => by simp [msk] at h
  | _ :: _, [], _, h => by simp [msk] at h
  | b :: bs, o :: L, 0, h => by
    simp only [msk, List.getElem?_cons_zero] at h ⊢
    cases b with
    | true => exact h
    | false => cases h
  | b :: bs, o :: L, i + 1, h => by
    simp only [msk, List.getElem?_cons_succ] at h ⊢
    exact msk_at h
theorem Go.fg (bs : List Bool) (k : Go κ M E pc (msk bs L) st σ) : Go κ M E pc L st σ := by
  intro p e s m args below meth c H locs ls F hE hS hW hL
  exact k p e s m args below meth c H locs ls F hE hS hW ⟨hL.1, hL.2.1, fun i v h => hL.2.2 i v (msk_at h)⟩
theorem Rk.fg (bs : List Bool) {L' : List (Option AV)} (h : msk bs L = L') (k : Rk κ M E pc L' st σ o K) : Rk κ M E pc L st σ o K := by
  subst h; exact Rk.sp (Go.fg bs) k
theorem Go.fgE (bs : List Bool) {L' : List (Option AV)} (h : msk bs L = L') (k : Go κ M E pc L' st σ) : Go κ M E pc L st σ := by
  subst h; exact Go.fg bs k
/-! branches -/
theorem Rk.icmp_eq {x y x' y' : Int} {off : Int} {tgt : Nat} (hd : decode M.2.1 pc = .ok (.if_icmp .eq off, 3)) (nx : nm x x') (ny : nm y y') (ht : (pc : Int) + off = (tgt : Int)) (k1 : x' = y' → Rk κ M E tgt L st σ o1 K) (k2 : ¬ (x' = y') → Rk κ M E (pc + 3) L st σ o2 K) : Rk κ M E pc L (vi y :: vi x :: st) σ (if x' = y' then o1 else o2) K := by
  intro a ha hk
  refine Go.n0 ny (Go.n1 nx (G_icmp_eq hd ⟨nx.1, ny.1⟩ ht (fun h => ?_) (fun h => ?_)))
  · have h' : x' = y' := by omega
    rw [if_pos h'] at ha; exact k1 h' a ha hk
  · have h' : ¬ (x' = y') := by omega
    rw [if_neg h'] at ha; exact k2 h' a ha hk
theorem Rk.if_eq {x x' : Int} {off : Int} {tgt : Nat} (hd : decode M.2.1 pc = .ok (.ifCond .eq off, 3)) (nx : nm x x') (ht : (pc : Int) + off = (tgt : Int)) (k1 : x' = 0 → Rk κ M E tgt L st σ o1 K) (k2 : ¬ (x' = 0) → Rk κ M E (pc + 3) L st σ o2 K) : Rk κ M E pc L (vi x :: st) σ (if x' = 0 then o1 else o2) K := by
  intro a ha hk
  refine Go.n0 nx (G_if_eq hd nx.1 ht (fun h => ?_) (fun h => ?_))
  · have h' : x' = 0 := by omega
    rw [if_pos h'] at ha; exact k1 h' a ha hk
  · have h' : ¬ (x' = 0) := by omega
    rw [if_neg h'] at ha; exact k2 h' a ha hk
theorem Rk.icmp_ne {x y x' y' : Int} {off : Int} {tgt : Nat} (hd : decode M.2.1 pc = .ok (.if_icmp .ne off, 3)) (nx : nm x x') (ny : nm y y') (ht : (pc : Int) + off = (tgt : Int)) (k1 : x' = y' → Rk κ M E (pc + 3) L st σ o1 K) (k2 : ¬ (x' = y') → Rk κ M E tgt L st σ o2 K) : Rk κ M E pc L (vi y :: vi x :: st) σ (if x' = y' then o1 else o2) K := by
  intro a ha hk
  refine Go.n0 ny (Go.n1 nx (G_icmp_ne hd ⟨nx.1, ny.1⟩ ht (fun h => ?_) (fun h => ?_)))
  · have h' : ¬ (x' = y') := by omega
    rw [if_neg h'] at ha; exact k2 h' a ha hk
  · have h' : x' = y' := by omega
    rw [if_pos h'] at ha; exact k1 h' a ha hk
theorem Rk.if_ne {x x' : Int} {off : Int} {tgt : Nat} (hd : decode M.2.1 pc = .ok (.ifCond .ne off, 3)) (nx : nm x x') (ht : (pc : Int) + off = (tgt : Int)) (k1 : x' = 0 → Rk κ M E (pc + 3) L st σ o1 K) (k2 : ¬ (x' = 0) → Rk κ M E tgt L st σ o2 K) : Rk κ M E pc L (vi x :: st) σ (if x' = 0 then o1 else o2) K := by
  intro a ha hk
  refine Go.n0 nx (G_if_ne hd nx.1 ht (fun h => ?_) (fun h => ?_))
  · have h' : ¬ (x' = 0) := by omega
    rw [if_neg h'] at ha; exact k2 h' a ha hk
  · have h' : x' = 0 := by omega
    rw [if_pos h'] at ha; exact k1 h' a ha hk
theorem Rk.icmp_lt {x y x' y' : Int} {off : Int} {tgt : Nat} (hd : decode M.2.1 pc = .ok (.if_icmp .lt off, 3)) (nx : nm x x') (ny : nm y y') (ht : (pc : Int) + off = (tgt : Int)) (k1 : x' < y' → Rk κ M E tgt L st σ o1 K) (k2 : ¬ (x' < y') → Rk κ M E (pc + 3) L st σ o2 K) : Rk κ M E pc L (vi y :: vi x :: st) σ (if x' < y' then o1 else o2) K := by
  intro a ha hk
  refine Go.n0 ny (Go.n1 nx (G_icmp_lt hd ⟨nx.1, ny.1⟩ ht (fun h => ?_) (fun h => ?_)))
  · have h' : x' < y' := by omega
    rw [if_pos h'] at ha; exact k1 h' a ha hk
  · have h' : ¬ (x' < y') := by omega
    rw [if_neg h'] at ha; exact k2 h' a ha hk
theorem Rk.if_lt {x x' : Int} {off : Int} {tgt : Nat} (hd : decode M.2.1 pc = .ok (.ifCond .lt off, 3)) (nx : nm x x') (ht : (pc : Int) + off = (tgt : Int)) (k1 : x' < 0 → Rk κ M E tgt L st σ o1 K) (k2 : ¬ (x' < 0) → Rk κ M E (pc + 3) L st σ o2 K) : Rk κ M E pc L (vi x :: st) σ (if x' < 0 then o1 else o2) K := by
  intro a ha hk
  refine Go.n0 nx (G_if_lt hd nx.1 ht (fun h => ?_) (fun h => ?_))
  · have h' : x' < 0 := by omega
    rw [if_pos h'] at ha; exact k1 h' a ha hk
  · have h' : ¬ (x' < 0) := by omega
    rw [if_neg h'] at ha; exact k2 h' a ha hk
theorem Rk.icmp_ge {x y x' y' : Int} {off : Int} {tgt : Nat} (hd : decode M.2.1 pc = .ok (.if_icmp .ge off, 3)) (nx : nm x x') (ny : nm y y') (ht : (pc : Int) + off = (tgt : Int)) (k1 : x' < y' → Rk κ M E (pc + 3) L st σ o1 K) (k2 : ¬ (x' < y') → Rk κ M E tgt L st σ o2 K) : Rk κ M E pc L (vi y :: vi x :: st) σ (if x' < y' then o1 else o2) K := by
  intro a ha hk
  refine Go.n0 ny (Go.n1 nx (G_icmp_ge hd ⟨nx.1, ny.1⟩ ht (fun h => ?_) (fun h => ?_)))
  · have h' : ¬ (x' < y') := by omega
    rw [if_neg h'] at ha; exact k2 h' a ha hk
  · have h' : x' < y' := by omega
    rw [if_pos h'] at ha; exact k1 h' a ha hk
theorem Rk.if_ge {x x' : Int} {off : Int} {tgt : Nat} (hd : decode M.2.1 pc = .ok (.ifCond .ge off, 3)) (nx : nm x x') (ht : (pc : Int) + off = (tgt : Int)) (k1 : x' < 0 → Rk κ M E (pc + 3) L st σ o1 K) (k2 : ¬ (x' < 0) → Rk κ M E tgt L st σ o2 K) : Rk κ M E pc L (vi x :: st) σ (if x' < 0 then o1 else o2) K := by
  intro a ha hk
  refine Go.n0 nx (G_if_ge hd nx.1 ht (fun h => ?_) (fun h => ?_))
  · have h' : ¬ (x' < 0) := by omega
    rw [if_neg h'] at ha; exact k2 h' a ha hk
  · have h' : x' < 0 := by omega
    rw [if_pos h'] at ha; exact k1 h' a ha hk
theorem Rk.icmp_gt {x y x' y' : Int} {off : Int} {tgt : Nat} (hd : decode M.2.1 pc = .ok (.if_icmp .gt off, 3)) (nx : nm x x') (ny : nm y y') (ht : (pc : Int) + off = (tgt : Int)) (k1 : y' < x' → Rk κ M E tgt L st σ o1 K) (k2 : ¬ (y' < x') → Rk κ M E (pc + 3) L st σ o2 K) : Rk κ M E pc L (vi y :: vi x :: st) σ (if y' < x' then o1 else o2) K := by
  intro a ha hk
  refine Go.n0 ny (Go.n1 nx (G_icmp_gt hd ⟨nx.1, ny.1⟩ ht (fun h => ?_) (fun h => ?_)))
  · have h' : y' < x' := by omega
    rw [if_pos h'] at ha; exact k1 h' a ha hk
  · have h' : ¬ (y' < x') := by omega
    rw [if_neg h'] at ha; exact k2 h' a ha hk
theorem Rk.if_gt {x x' : Int} {off : Int} {tgt : Nat} (hd : decode M.2.1 pc = .ok (.ifCond .gt off, 3)) (nx : nm x x') (ht : (pc : Int) + off = (tgt : Int)) (k1 : 0 < x' → Rk κ M E tgt L st σ o1 K) (k2 : ¬ (0 < x') → Rk κ M E (pc + 3) L st σ o2 K) : Rk κ M E pc L (vi x :: st) σ (if 0 < x' then o1 else o2) K := by
  intro a ha hk
  refine Go.n0 nx (G_if_gt hd nx.1 ht (fun h => ?_) (fun h => ?_))
  · have h' : 0 < x' := by omega
    rw [if_pos h'] at ha; exact k1 h' a ha hk
  · have h' : ¬ (0 < x') := by omega
    rw [if_neg h'] at ha; exact k2 h' a ha hk
theorem Rk.icmp_le {x y x' y' : Int} {off : Int} {tgt : Nat} (hd : decode M.2.1 pc = .ok (.if_icmp .le off, 3)) (nx : nm x x') (ny : nm y y') (ht : (pc : Int) + off = (tgt : Int)) (k1 : y' < x' → Rk κ M E (pc + 3) L st σ o1 K) (k2 : ¬ (y' < x') → Rk κ M E tgt L st σ o2 K) : Rk κ M E pc L (vi y :: vi x :: st) σ (if y' < x' then o1 else o2) K := by
  intro a ha hk
  refine Go.n0 ny (Go.n1 nx (G_icmp_le hd ⟨nx.1, ny.1⟩ ht (fun h => ?_) (fun h => ?_)))
  · have h' : ¬ (y' < x') := by omega
    rw [if_neg h'] at ha; exact k2 h' a ha hk
  · have h' : y' < x' := by omega
    rw [if_pos h'] at ha; exact k1 h' a ha hk
theorem Rk.if_le {x x' : Int} {off : Int} {tgt : Nat} (hd : decode M.2.1 pc = .ok (.ifCond .le off, 3)) (nx : nm x x') (ht : (pc : Int) + off = (tgt : Int)) (k1 : 0 < x' → Rk κ M E (pc + 3) L st σ o1 K) (k2 : ¬ (0 < x') → Rk κ M E tgt L st σ o2 K) : Rk κ M E pc L (vi x :: st) σ (if 0 < x' then o1 else o2) K := by
  intro a ha hk
  refine Go.n0 nx (G_if_le hd nx.1 ht (fun h => ?_) (fun h => ?_))
  · have h' : ¬ (0 < x') := by omega
    rw [if_neg h'] at ha; exact k2 h' a ha hk
  · have h' : 0 < x' := by omega
    rw [if_pos h'] at ha; exact k1 h' a ha hk
theorem Rk.tblO {dflt lo hi : Int} {offs : Array Int} {len : Nat} {x x' : Int} {tgt : Nat} (hd : decode M.2.1 pc = .ok (.tableswitch dflt lo hi offs, len)) (nx : nm x x') (h : x' < lo ∨ hi < x') (ht : (pc : Int) + dflt = (tgt : Int)) (k : Rk κ M E tgt L st σ o K) : Rk κ M E pc L (vi x :: st) σ o K :=
  fun a ha hk => Go.n0 nx (G_tblO hd nx.1 h ht (k a ha hk))
theorem Rk.tblI {dflt lo hi : Int} {offs : Array Int} {len : Nat} {x x' off : Int} {tgt : Nat} (v : Int) (hx : x' = v) (hd : decode M.2.1 pc = .ok (.tableswitch dflt lo hi offs, len)) (nx : nm x x') (h1 : ¬ v < lo) (h2 : ¬ hi < v) (ho : offs[(v - lo).toNat]? = some off) (ht : (pc : Int) + off = (tgt : Int)) (k : Rk κ M E tgt L st σ o K) : Rk κ M E pc L (vi x :: st) σ o K :=
  fun a ha hk => Go.n0 nx (G_tblI v hx hd (by have := nx.1; rw [hx] at this; exact this) h1 h2 ho ht (k a ha hk))
/-! storing a local -/
theorem Rk.ist_n {q : Fin 4} {x x' : Int} {f : Int → Option α} (i : Nat) (Lf : Int → List (Option AV)) (hi : (q : Nat) = i) (hn : i < M.2.2.1) (hp : pL L i = true) (hd : decode M.2.1 pc = .ok (.istore_n q, 1)) (nx : nm x x') (hL : ∀ y, L.set i (some (vi y)) = Lf y) (k : ∀ y, inR y → Rk κ M E (pc + 1) (Lf y) st σ (f y) K) : Rk κ M E pc L (vi x :: st) σ (ll x' f) K :=
  fun a ha hk => Go.n0 nx (G_istore_n i hi hn hp hd (by rw [hL]; exact k x' nx.1 a ha hk))
theorem Rk.ist_w {x x' : Int} {f : Int → Option α} (i : Nat) (Lf : Int → List (Option AV)) (hn : i < M.2.2.1) (hp : pL L i = true) (hd : decode M.2.1 pc = .ok (.istore i, 2)) (nx : nm x x') (hL : ∀ y, L.set i (some (vi y)) = Lf y) (k : ∀ y, inR y → Rk κ M E (pc + 2) (Lf y) st σ (f y) K) : Rk κ M E pc L (vi x :: st) σ (ll x' f) K :=
  fun a ha hk => Go.n0 nx (G_istore_w i hn hp hd (by rw [hL]; exact k x' nx.1 a ha hk))
/-- an atom is stored without a new name -/
theorem Rk.isa_n {q : Fin 4} {x : Int} (i : Nat) {L' : List (Option AV)} (hi : (q : Nat) = i) (hn : i < M.2.2.1) (hp : pL L i = true) (hd : decode M.2.1 pc = .ok (.istore_n q, 1)) (hL : L.set i (some (vi x)) = L') (k : Rk κ M E (pc + 1) L' st σ o K) : Rk κ M E pc L (vi x :: st) σ o K :=
  fun a ha hk => G_istore_n i hi hn hp hd (by rw [hL]; exact k a ha hk)
theorem Rk.isa_w {x : Int} (i : Nat) {L' : List (Option AV)} (hn : i < M.2.2.1) (hp : pL L i = true) (hd : decode M.2.1 pc = .ok (.istore i, 2)) (hL : L.set i (some (vi x)) = L') (k : Rk κ M E (pc + 2) L' st σ o K) : Rk κ M E pc L (vi x :: st) σ o K :=
  fun a ha hk => G_istore_w i hn hp hd (by rw [hL]; exact k a ha hk)
theorem Rk.ast_n {q : Fin 4} {x : Nat} (i : Nat) {L' : List (Option AV)} (hi : (q : Nat) = i) (hn : i < M.2.2.1) (hp : pL L i = true) (hd : decode M.2.1 pc = .ok (.astore_n q, 1)) (hL : L.set i (some (vr x)) = L') (k : Rk κ M E (pc + 1) L' st σ o K) : Rk κ M E pc L (vr x :: st) σ o K :=
  fun a ha hk => G_astore_n i hi hn hp hd (by rw [hL]; exact k a ha hk)
theorem Rk.ast_w {x : Nat} (i : Nat) {L' : List (Option AV)} (hn : i < M.2.2.1) (hp : pL L i = true) (hd : decode M.2.1 pc = .ok (.astore i, 2)) (hL : L.set i (some (vr x)) = L') (k : Rk κ M E (pc + 2) L' st σ o K) : Rk κ M E pc L (vr x :: st) σ o K :=
  fun a ha hk => G_astore_w i hn hp hd (by rw [hL]; exact k a ha hk)
theorem Rk.lst_n {q : Fin 4} {x x' : Int} {f : Int → Option α} (i : Nat) (Lf : Int → List (Option AV)) (hi : (q : Nat) = i) (hn : i + 1 < M.2.2.1) (hp : pL L i = true) (hd : decode M.2.1 pc = .ok (.lstore_n q, 1)) (nx : nmj x x') (hL : ∀ y, (L.set i (some (vl y))).set (i + 1) none = Lf y) (k : ∀ y, inJ y → Rk κ M E (pc + 1) (Lf y) st σ (f y) K) : Rk κ M E pc L (vl x :: st) σ (ll x' f) K :=
  fun a ha hk => Go.j0 nx (G_lstore_n i hi hn hp hd (by rw [hL]; exact k x' nx.1 a ha hk))
theorem Rk.lst_w {x x' : Int} {f : Int → Option α} (i : Nat) (Lf : Int → List (Option AV)) (hn : i + 1 < M.2.2.1) (hp : pL L i = true) (hd : decode M.2.1 pc = .ok (.lstore i, 2)) (nx : nmj x x') (hL : ∀ y, (L.set i (some (vl y))).set (i + 1) none = Lf y) (k : ∀ y, inJ y → Rk κ M E (pc + 2) (Lf y) st σ (f y) K) : Rk κ M E pc L (vl x :: st) σ (ll x' f) K :=
  fun a ha hk => Go.j0 nx (G_lstore_w i hn hp hd (by rw [hL]; exact k x' nx.1 a ha hk))
theorem Rk.inc {n x : Int} {f : Int → Option α} (i : Nat) (Lf : Int → List (Option AV)) (hl : L[i]? = some (some (vi x))) (hn : i < M.2.2.1) (hp : pL L i = true) (hd : decode M.2.1 pc = .ok (.iinc i n, 3)) (hL : ∀ y, L.set i (some (vi y)) = Lf y) (k : ∀ y, inR y → Rk κ M E (pc + 3) (Lf y) st σ (f y) K) : Rk κ M E pc L st σ (ll (wr (x + n)) f) K := by
  intro a ha hk
  refine G_iinc_w i hl hn hp hd ?_
  have h2 := k (wr (x + n)) (wrR _) a ha hk
  rw [← hL] at h2
  intro p e s m args below meth c H locs ls F hE hS hW hLr
  refine h2 p e s m args below meth c H locs ls F hE hS hW ⟨hLr.1, hLr.2.1, fun j v hv => ?_⟩
  by_cases hj : j = i
  · subst hj
    have h3 : (L.set j (some (vi (x + n))))[j]? = some (some (vi (x + n))) := by
      rw [List.getElem?_set_self (List.getElem?_eq_some_iff.mp hl).1]
    rw [List.getElem?_set_self (List.getElem?_eq_some_iff.mp hl).1] at hv
    cases hv
    rw [hLr.2.2 _ _ h3]
    show some (Slot.val (.int (Int32.ofInt (x + n)))) = some (Slot.val (.int (Int32.ofInt (wr (x + n)))))
    rw [← wr_of]
  · rw [List.getElem?_set_ne (fun e => hj e.symm)] at hv
    exact hLr.2.2 j v (by rw [List.getElem?_set_ne (fun e => hj e.symm)]; exact hv)
/-! more arithmetic -/
theorem G_ldv {n : Int} (h : inR n) : Int32.minValue.toInt ≤ n ∧ n ≤ Int32.maxValue.toInt := ⟨h.1, by have := h.2; show n ≤ 2147483647; omega⟩
theorem G_idiv {x y x' y' : Int} (hd : decode M.2.1 pc = .ok (.idiv, 1)) (nx : nm x x') (ny : nm y y') (hy : y' ≠ 0) (k : Go κ M E (pc + 1) L (vi (x'.tdiv y') :: st) σ) : Go κ M E pc L (vi y :: vi x :: st) σ := by
  refine Go.n0 ny (Go.n1 nx ?_)
  intro p e s m args below meth c H locs ls F hE hS hW hL
  have h2 := k p e s m args below meth c H locs ls F hE hS hW hL
  refine lv_idiv (x := Int32.ofInt x') (y := Int32.ofInt y') F.1 F.2.1 hd (fun h => hy ((i32_eq ny.1 (by decide)).mp (h.trans i32_0.symm))) ?_
  rw [← Int32.ofInt_tdiv (G_ldv nx.1).1 (G_ldv nx.1).2 (G_ldv ny.1).1 (G_ldv ny.1).2]; exact h2
theorem G_irem {x y x' y' : Int} (hd : decode M.2.1 pc = .ok (.irem, 1)) (nx : nm x x') (ny : nm y y') (hy : y' ≠ 0) (k : Go κ M E (pc + 1) L (vi (x'.tmod y') :: st) σ) : Go κ M E pc L (vi y :: vi x :: st) σ := by
  refine Go.n0 ny (Go.n1 nx ?_)
  intro p e s m args below meth c H locs ls F hE hS hW hL
  have h2 := k p e s m args below meth c H locs ls F hE hS hW hL
  refine lv_irem (x := Int32.ofInt x') (y := Int32.ofInt y') F.1 F.2.1 hd (fun h => hy ((i32_eq ny.1 (by decide)).mp (h.trans i32_0.symm))) ?_
  have e1 : Int32.ofInt x' - Int32.ofInt x' / Int32.ofInt y' * Int32.ofInt y' = Int32.ofInt (x'.tmod y') := by
    rw [← Int32.ofInt_tdiv (G_ldv nx.1).1 (G_ldv nx.1).2 (G_ldv ny.1).1 (G_ldv ny.1).2, ← Int32.ofInt_mul, ← Int32.ofInt_sub]
    congr 1
    have := Int.tmod_add_mul_tdiv x' y'
    rw [Int.mul_comm y'] at this
    omega
  rw [e1]; exact h2
theorem G_ldiv {x y x' y' : Int} (hd : decode M.2.1 pc = .ok (.ldiv, 1)) (nx : nmj x x') (ny : nmj y y') (hy : y' ≠ 0) (k : Go κ M E (pc + 1) L (vl (x'.tdiv y') :: st) σ) : Go κ M E pc L (vl y :: vl x :: st) σ := by
  refine Go.j0 ny (Go.j1 nx ?_)
  intro p e s m args below meth c H locs ls F hE hS hW hL
  have h2 := k p e s m args below meth c H locs ls F hE hS hW hL
  have r1 : ∀ {n : Int}, inJ n → Int64.minValue.toInt ≤ n ∧ n ≤ Int64.maxValue.toInt := fun {n} h => ⟨h.1, by have := h.2; show n ≤ 9223372036854775807; omega⟩
  refine lv_ldiv (x := Int64.ofInt x') (y := Int64.ofInt y') F.1 F.2.1 hd (fun h => hy ?_) ?_
  · have h3 := congrArg Int64.toInt h
    rw [i64_t ny.1] at h3
    exact h3
  · rw [← Int64.ofInt_tdiv (r1 nx.1).1 (r1 nx.1).2 (r1 ny.1).1 (r1 ny.1).2]; exact h2
theorem G_lneg {x : Int} (hd : decode M.2.1 pc = .ok (.lneg, 1)) (k : Go κ M E (pc + 1) L (vl (-x) :: st) σ) : Go κ M E pc L (vl x :: st) σ := by
  intro p e s m args below meth c H locs ls F hE hS hW hL
  have h2 := k p e s m args below meth c H locs ls F hE hS hW hL
  refine lv_lneg (x := Int64.ofInt x) F.1 F.2.1 hd ?_
  rw [← Int64.ofInt_neg]; exact h2
theorem G_i2l {x x' : Int} (hd : decode M.2.1 pc = .ok (.i2l, 1)) (nx : nm x x') (k : Go κ M E (pc + 1) L (vl x' :: st) σ) : Go κ M E pc L (vi x :: st) σ := by
  refine Go.n0 nx ?_
  intro p e s m args below meth c H locs ls F hE hS hW hL
  exact lv_i2l (x := Int32.ofInt x') F.1 F.2.1 hd (Int32.toInt64_ofInt (G_ldv nx.1).1 (G_ldv nx.1).2) (k p e s m args below meth c H locs ls F hE hS hW hL)
theorem G_l2i {x : Int} (hd : decode M.2.1 pc = .ok (.l2i, 1)) (k : Go κ M E (pc + 1) L (vi x :: st) σ) : Go κ M E pc L (vl x :: st) σ := by
  intro p e s m args below meth c H locs ls F hE hS hW hL
  exact lv_l2i (x := Int64.ofInt x) F.1 F.2.1 hd Int64.toInt32_ofInt (k p e s m args below meth c H locs ls F hE hS hW hL)
theorem G_lcmp {x y x' y' : Int} (hd : decode M.2.1 pc = .ok (.lcmp, 1)) (nx : nmj x x') (ny : nmj y y') (k : Go κ M E (pc + 1) L (vi (cmpJ x' y') :: st) σ) : Go κ M E pc L (vl y :: vl x :: st) σ := by
  refine Go.j0 ny (Go.j1 nx ?_)
  intro p e s m args below meth c H locs ls F hE hS hW hL
  have h2 := k p e s m args below meth c H locs ls F hE hS hW hL
  refine W.lcmp (x := Int64.ofInt x') (y := Int64.ofInt y') F.1 F.2.1 hd ?_
  have e1 : lg_cmp (Int64.ofInt x') (Int64.ofInt y') = Int32.ofInt (cmpJ x' y') := by
    unfold lg_cmp cmpJ
    simp only [gt_iff_lt, Int64.lt_iff_toInt_lt, ← Int64.toInt_inj, i64_t nx.1, i64_t ny.1]
    split
    · rfl
    · split <;> rfl
  rw [e1]; exact h2
theorem G_iand {x y : Int} (hd : decode M.2.1 pc = .ok (.iand, 1)) (k : Go κ M E (pc + 1) L (vi (bAnd x y) :: st) σ) : Go κ M E pc L (vi y :: vi x :: st) σ := by
  intro p e s m args below meth c H locs ls F hE hS hW hL
  have h2 := k p e s m args below meth c H locs ls F hE hS hW hL
  refine lv_iand (x := Int32.ofInt x) (y := Int32.ofInt y) F.1 F.2.1 hd ?_
  rw [← Int32.ofInt_toInt (Int32.ofInt x &&& Int32.ofInt y)]; exact h2
theorem G_ior {x y : Int} (hd : decode M.2.1 pc = .ok (.ior, 1)) (k : Go κ M E (pc + 1) L (vi (bOr x y) :: st) σ) : Go κ M E pc L (vi y :: vi x :: st) σ := by
  intro p e s m args below meth c H locs ls F hE hS hW hL
  have h2 := k p e s m args below meth c H locs ls F hE hS hW hL
  refine lv_ior (x := Int32.ofInt x) (y := Int32.ofInt y) F.1 F.2.1 hd ?_
  rw [← Int32.ofInt_toInt (Int32.ofInt x ||| Int32.ofInt y)]; exact h2
theorem G_ixor {x y : Int} (hd : decode M.2.1 pc = .ok (.ixor, 1)) (k : Go κ M E (pc + 1) L (vi (bXor x y) :: st) σ) : Go κ M E pc L (vi y :: vi x :: st) σ := by
  intro p e s m args below meth c H locs ls F hE hS hW hL
  have h2 := k p e s m args below meth c H locs ls F hE hS hW hL
  refine lv_ixor (x := Int32.ofInt x) (y := Int32.ofInt y) F.1 F.2.1 hd ?_
  rw [← Int32.ofInt_toInt (Int32.ofInt x ^^^ Int32.ofInt y)]; exact h2
theorem G_ishl {x y : Int} (hd : decode M.2.1 pc = .ok (.ishl, 1)) (k : Go κ M E (pc + 1) L (vi (bShl x y) :: st) σ) : Go κ M E pc L (vi y :: vi x :: st) σ := by
  intro p e s m args below meth c H locs ls F hE hS hW hL
  have h2 := k p e s m args below meth c H locs ls F hE hS hW hL
  refine lv_ishl (x := Int32.ofInt x) (y := Int32.ofInt y) F.1 F.2.1 hd ?_
  rw [← Int32.ofInt_toInt (Int32.ofInt x <<< (Int32.ofInt y &&& 31))]; exact h2
theorem G_ishr {x y : Int} (hd : decode M.2.1 pc = .ok (.ishr, 1)) (k : Go κ M E (pc + 1) L (vi (bShr x y) :: st) σ) : Go κ M E pc L (vi y :: vi x :: st) σ := by
  intro p e s m args below meth c H locs ls F hE hS hW hL
  have h2 := k p e s m args below meth c H locs ls F hE hS hW hL
  refine lv_ishr (x := Int32.ofInt x) (y := Int32.ofInt y) F.1 F.2.1 hd ?_
  rw [← Int32.ofInt_toInt (Int32.ofInt x >>> (Int32.ofInt y &&& 31))]; exact h2
theorem G_iushr {x y : Int} (hd : decode M.2.1 pc = .ok (.iushr, 1)) (k : Go κ M E (pc + 1) L (vi (bUsh x y) :: st) σ) : Go κ M E pc L (vi y :: vi x :: st) σ := by
  intro p e s m args below meth c H locs ls F hE hS hW hL
  exact lv_iushr (x := Int32.ofInt x) (y := Int32.ofInt y) F.1 F.2.1 hd (Int32.ofInt_toInt _).symm (k p e s m args below meth c H locs ls F hE hS hW hL)
theorem bAnd_R (x y : Int) : inR (bAnd x y) := toR _
theorem bOr_R (x y : Int) : inR (bOr x y) := toR _
theorem bXor_R (x y : Int) : inR (bXor x y) := toR _
theorem bShl_R (x y : Int) : inR (bShl x y) := toR _
theorem bShr_R (x y : Int) : inR (bShr x y) := toR _
theorem bUsh_R (x y : Int) : inR (bUsh x y) := toR _
/-! joins and loops -/
theorem Rk.join {β : Type} {q : Option β} {f : β → Option α} (P : β → Prop) {pcj : Nat} (Lf : β → List (Option AV)) (sf : β → List AV) (σf : β → Sg)
    (h : Rk κ M E pc L st σ q (fun x => P x → Go κ M E pcj (Lf x) (sf x) (σf x))) (k : ∀ x, P x → Rk κ M E pcj (Lf x) (sf x) (σf x) (f x) K) : Rk κ M E pc L st σ (b1 q f) K := by
  intro a ha hk
  obtain ⟨x, h1, h2⟩ := Option.bind_eq_some_iff.mp ha
  exact h x h1 (fun hp => k x hp a h2 hk)
theorem Rk.loop {β : Type} {B : β → Option (β ⊕ α)} (P : β → Prop) (Lf : β → List (Option AV)) (σf : β → Sg)
    (h : ∀ x, P x → Rk κ M E pc (Lf x) st (σf x) (B x) (fun r => match r with | .inl y => P y → Go κ M E pc (Lf y) st (σf y) | .inr b => K b)) (x : β) (hx : P x) : Rk κ M E pc (Lf x) st (σf x) (wl B x) K := by
  intro a ha hk
  obtain ⟨n, hn⟩ := wl_iff.mp ha
  clear ha
  induction n generalizing x with
  | zero => cases hn
  | succ n ih =>
    unfold wlN at hn
    cases hB : B x with
    | none => rw [hB] at hn; cases hn
    | some r =>
      rw [hB] at hn
      cases r with
      | inl y => exact h x hx _ hB (fun hy => ih y hy hn)
      | inr b => cases hn; exact h x hx _ hB hk
end RkRows
