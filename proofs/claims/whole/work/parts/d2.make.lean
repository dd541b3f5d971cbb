/-! the world while it is being made: cells come in the order of their numbers -/
section Make
variable {κ : Kx} {M : Md} {R : Room} {Z : List Frame → Array Value → State → State → Prop} {cn sl pc n : Nat} {L : List (Option AV)} {st : List AV} {P : Nat → List Nat}
def tkC : List Nat := [2, 32, 63, 76, 89, 102, 115, 128, 153]
def s0T : List (Nat × Nat × Int) := [(141, 3, -1), (152, 2, 2), (152, 4, -1), (172, 25, -1), (172, 27, -1), (173, 4, 10), (173, 5, 10), (173, 548, 1), (173, 549, 1)] ++ tkC.flatMap (fun t => [(t + 1, 0, 10), (t + 1, 1, 10), (t + 3, 0, 1), (t + 3, 1, 1)])
/-- the first memory -/
def s0M : Sg := fun k j => ((s0T.find? (fun q => q.1 == k && q.2.1 == j)).map (fun q => q.2.2)).getD 0
def fiV (k j : Nat) : AV := match lay k with
  | (0, _) => vi (s0M k j)
  | (1, c) => sv s0M c k j
  | (2, _) => sv s0M 12 k j
  | (3, _) => sv s0M 13 k j
  | _ => vi 0
def deV (k j : Nat) : AV := match lay k with
  | (0, _) => vi 0
  | (1, c) => match sk c k j with
    | none => vi 0
    | some _ => .inr (.inr none)
  | (2, _) => .inr (.inr none)
  | (3, _) => .inr (.inr none)
  | _ => vi 0
def pu (P : Nat → List Nat) (k : Nat) (ds : List Nat) : Nat → List Nat := fun a => if a = k then ds else P a
theorem pu_at {k : Nat} {ds : List Nat} : pu P k ds k = ds := if_pos rfl
theorem pu_ne {k a : Nat} {ds : List Nat} (h : a ≠ k) : pu P k ds a = P a := if_neg h
theorem pu_nil {k : Nat} (h : P k = []) : pu P k [] = P := by
  funext a
  by_cases e : a = k
  · subst e; rw [pu_at, h]
  · rw [pu_ne e]
theorem pu_pu {k : Nat} {ds es : List Nat} : pu (pu P k ds) k es = pu P k es := by
  funext a
  by_cases e : a = k
  · subst e; rw [pu_at, pu_at]
  · rw [pu_ne e, pu_ne e, pu_ne e]
theorem pu_comm {k l : Nat} {ds es : List Nat} (h : k ≠ l) : pu (pu P k ds) l es = pu (pu P l es) k ds := by
  funext a
  by_cases e : a = k
  · subst e; rw [pu_ne h, pu_at, pu_at]
  · by_cases e2 : a = l
    · subst e2; rw [pu_at, pu_ne e, pu_at]
    · rw [pu_ne e2, pu_ne e, pu_ne e, pu_ne e2]
theorem pu_z {k a : Nat} {ds : List Nat} (h : a ≠ k) (hP : P a = []) : pu P k ds a = [] := by rw [pu_ne h, hP]
def Rp (P : Nat → List Nat) (k j : Nat) : AV := if (P k).contains j then deV k j else fiV k j
theorem Rp_pop {k j i : Nat} {ds : List Nat} (hj : ds.contains j = false) : Rp (pu P k ds) k i = if i = j then fiV k j else Rp (pu P k (j :: ds)) k i := by
  unfold Rp
  rw [pu_at, pu_at]
  by_cases e : i = j
  · subst e; rw [if_pos rfl, hj]; rfl
  · rw [if_neg e]
    have : (j :: ds).contains i = ds.contains i := by
      rw [List.contains_cons]
      simp [e]
    rw [this]
def cellR (κ : Kx) (V : Nat → Nat → AV) (H : Heap) (k : Nat) : Prop := match lay k with
  | (0, n) => H[kAd κ k]? = some (arrV (κ.2.2.1 0) n (fun j => cv κ (V k j)))
  | (1, c) => t_OB (kAd κ k) (κ.2.1.1 c) (vwCl.getD c ("", TX0, 0)).2.2 (κ.2.1.2 c) H (fun j => cv κ (V k j))
  | (2, n) => H[kAd κ k]? = some (arrV (κ.2.2.1 1) n (fun j => cv κ (V k j)))
  | (3, n) => H[kAd κ k]? = some (arrV (κ.2.2.1 2) n (fun j => cv κ (V k j)))
  | _ => True
theorem cellR.ag {V V' : Nat → Nat → AV} {H H1 : Heap} {k : Nat} (h : cellR κ V H k) (ha : H1[kAd κ k]? = H[kAd κ k]?) (hV : ∀ j, V' k j = V k j) : cellR κ V' H1 k := by
  unfold cellR at h ⊢
  split at h
  · rw [ha]; simp only [hV]; exact h
  · exact (h.kept ha).to (fun j _ => by rw [hV])
  · rw [ha]; simp only [hV]; exact h
  · rw [ha]; simp only [hV]; exact h
  · trivial
/-- the heap holds the first n cells; of cell k the slots P k still wait -/
def Wp (κ : Kx) (n : Nat) (P : Nat → List Nat) (H : Heap) : Prop := H.size = kAd κ 0 + n ∧ ∀ k, k < n → cellR κ (Rp P) H k
/-- new cells lie one behind the other -/
def ad (κ : Kx) : Prop := (∀ i, i < NN → kAd κ i = kAd κ 0 + i) ∧ ∀ q, kAd κ 0 ≤ q → kA κ q
theorem Wp.grow {H H1 : Heap} {ds : List Nat} (hW : Wp κ n P H) (ha : ad κ) (hn : n < NN) (z1 : H1.size = H.size + 1) (o1 : ∀ q, q < H.size → H1[q]? = H[q]?) (h : cellR κ (Rp (pu P n ds)) H1 n) : Wp κ (n + 1) (pu P n ds) H1 := by
  refine ⟨by rw [z1, hW.1]; omega, fun k hk => ?_⟩
  by_cases e : k = n
  · subst e; exact h
  · refine (hW.2 k (by omega)).ag (o1 _ (by rw [hW.1, ha.1 k (by omega)]; omega)) (fun j => ?_)
    unfold Rp
    rw [pu_ne e]
theorem Wp.put {H H1 : Heap} {k : Nat} {ds es : List Nat} (hW : Wp κ n (pu P k ds) H) (ha : ad κ) (hk : k < n) (hn : n ≤ NN) (z1 : H1.size = H.size) (o1 : ∀ q, q ≠ kAd κ k → H1[q]? = H[q]?) (h : cellR κ (Rp (pu P k es)) H1 k) : Wp κ n (pu P k es) H1 := by
  refine ⟨by rw [z1, hW.1], fun a hk' => ?_⟩
  by_cases e : a = k
  · subst e; exact h
  · refine (hW.2 a hk').ag (o1 _ (by rw [ha.1 a (by omega), ha.1 k (by omega)]; omega)) (fun j => ?_)
    unfold Rp
    rw [pu_ne e, pu_ne e]
theorem Wp.done {H : Heap} (hW : Wp κ NN (fun _ => []) H) : Wd κ s0M H := by
  intro k hk
  have h := hW.2 k hk
  have e : ∀ j, Rp (fun _ => []) k j = fiV k j := fun j => rfl
  unfold cellR at h
  unfold cellAt
  split at h
  case h_1 n hl =>
    rw [hl]
    simp only [e] at h
    unfold fiV at h
    rw [hl] at h
    exact h
  case h_2 c hl =>
    rw [hl]
    simp only [e] at h
    unfold fiV at h
    rw [hl] at h
    exact h
  case h_3 n hl =>
    rw [hl]
    simp only [e] at h
    unfold fiV at h
    rw [hl] at h
    exact h
  case h_4 n hl =>
    rw [hl]
    simp only [e] at h
    unfold fiV at h
    rw [hl] at h
    exact h
  case h_5 h1 h2 h3 h4 =>
    split
    case h_1 n hl => exact absurd hl (h1 n)
    case h_2 n hl => exact absurd hl (h2 n)
    case h_3 n hl => exact absurd hl (h3 n)
    case h_4 n hl => exact absurd hl (h4 n)
    case h_5 => trivial
/-- beside Ev: rows of sheets and of talks can be made -/
def Ex (κ : Kx) (s : State) : Prop := Ev κ s ∧ va_AO "ThreeDots$Sheet" s ∧ va_AO "ThreeDots$Talk" s
theorem Ex.later {s U : State} {H : Heap} {locs : List Loc} (h : Ex κ s) (hS : va_S (kA κ) s.heap H locs) (hU : U.heap = H) (hW : s.WarmedH U.vm) : Ex κ U := ⟨h.1.later hS hU hW, va_AO.moved hW.alike h.2.1, va_AO.moved hW.alike h.2.2⟩
theorem Ex.calling {U : State} {g : JFrame} {mk : MethodId} {a : Array Value} (h : Ex κ U) : Ex κ (U.calling g mk a) := ⟨h.1.calling, va_AO.moved (u := U) (U := U.calling g mk a) (Vm.Alike.refl U.vm) h.2.1, va_AO.moved (u := U) (U := U.calling g mk a) (Vm.Alike.refl U.vm) h.2.2⟩
/-- the machine in a method M at pc, while the world is being made -/
def Gc (κ : Kx) (M : Md) (R : Room) (Z : List Frame → Array Value → State → State → Prop) (cn sl pc : Nat) (L : List (Option AV)) (st : List AV) (n : Nat) (P : Nat → List Nat) : Prop :=
  ∀ (p : Program) (e : Env) (s : State) (m : MethodId) (args : Array Value) (below : List Frame) (meth : Method) (c : Code) (H : Heap) (locs : List Loc) (ls : Array Slot),
    ad κ → Fx M p s m args meth c → (M.1.name = "<init>" → meth.name = "<init>") → Ex κ s → va_S (kA κ) s.heap H locs → Wp κ n P H → Lr κ M.2.2.1 L ls →
    W p κ.1 e R s m args below meth c H locs cn sl (Z below args s) (F0 m pc ls (st.map (cv κ)))
theorem Gc.iconst {v : Int} (hd : decode M.2.1 pc = .ok (.iconst v, 1)) (k : Gc κ M R Z cn sl (pc + 1) L (vi v :: st) n P) : Gc κ M R Z cn sl pc L st n P := by
  intro p e s m args below meth c H locs ls hA F hI hE hS hW hL
  exact lv_iconst F.1 F.2.1 hd rfl (k p e s m args below meth c H locs ls hA F hI hE hS hW hL)
theorem Gc.bipush {v : Int} (hd : decode M.2.1 pc = .ok (.bipush v, 2)) (hv : (Int8.ofInt v).toInt32 = Int32.ofInt v) (k : Gc κ M R Z cn sl (pc + 2) L (vi v :: st) n P) : Gc κ M R Z cn sl pc L st n P := by
  intro p e s m args below meth c H locs ls hA F hI hE hS hW hL
  exact lv_bipush F.1 F.2.1 hd hv (k p e s m args below meth c H locs ls hA F hI hE hS hW hL)
theorem Gc.sipush {v : Int} (hd : decode M.2.1 pc = .ok (.sipush v, 3)) (hv : (Int16.ofInt v).toInt32 = Int32.ofInt v) (k : Gc κ M R Z cn sl (pc + 3) L (vi v :: st) n P) : Gc κ M R Z cn sl pc L st n P := by
  intro p e s m args below meth c H locs ls hA F hI hE hS hW hL
  exact lv_sipush F.1 F.2.1 hd hv (k p e s m args below meth c H locs ls hA F hI hE hS hW hL)
theorem Gc.iload {q : Fin 4} {x : Int} (i : Nat) (hi : (q : Nat) = i) (hl : L[i]? = some (some (vi x))) (hd : decode M.2.1 pc = .ok (.iload_n q, 1)) (k : Gc κ M R Z cn sl (pc + 1) L (vi x :: st) n P) : Gc κ M R Z cn sl pc L st n P := by
  intro p e s m args below meth c H locs ls hA F hI hE hS hW hL
  exact lv_iload_n F.1 F.2.1 hd hi (hL.2.2 i _ hl) (k p e s m args below meth c H locs ls hA F hI hE hS hW hL)
theorem Gc.aload {q : Fin 4} {x : Nat} (i : Nat) (hi : (q : Nat) = i) (hl : L[i]? = some (some (vr x))) (hd : decode M.2.1 pc = .ok (.aload_n q, 1)) (k : Gc κ M R Z cn sl (pc + 1) L (vr x :: st) n P) : Gc κ M R Z cn sl pc L st n P := by
  intro p e s m args below meth c H locs ls hA F hI hE hS hW hL
  exact lv_aload_n F.1 F.2.1 hd hi (hL.2.2 i _ hl) (k p e s m args below meth c H locs ls hA F hI hE hS hW hL)
theorem Gc.dup {x : Nat} (hd : decode M.2.1 pc = .ok (.dup, 1)) (k : Gc κ M R Z cn sl (pc + 1) L (vr x :: vr x :: st) n P) : Gc κ M R Z cn sl pc L (vr x :: st) n P := by
  intro p e s m args below meth c H locs ls hA F hI hE hS hW hL
  exact lv_dup F.1 F.2.1 hd rfl (k p e s m args below meth c H locs ls hA F hI hE hS hW hL)
theorem Gc.istore {q : Fin 4} {x : Int} (i : Nat) {L' : List (Option AV)} (hi : (q : Nat) = i) (hn : i < M.2.2.1) (hp : pL L i = true) (hd : decode M.2.1 pc = .ok (.istore_n q, 1)) (hL' : L.set i (some (vi x)) = L') (k : Gc κ M R Z cn sl (pc + 1) L' st n P) : Gc κ M R Z cn sl pc L (vi x :: st) n P := by
  intro p e s m args below meth c H locs ls hA F hI hE hS hW hL
  subst hL'
  exact lv_istore_n F.1 F.2.1 hd hi hL.has hn rfl (fun ls' h' => k p e s m args below meth c H locs ls' hA F hI hE hS hW (Lr.set1 (v := vi x) hp h'))
theorem Gc.astore {q : Fin 4} {x : Nat} (i : Nat) {L' : List (Option AV)} (hi : (q : Nat) = i) (hn : i < M.2.2.1) (hp : pL L i = true) (hd : decode M.2.1 pc = .ok (.astore_n q, 1)) (hL' : L.set i (some (vr x)) = L') (k : Gc κ M R Z cn sl (pc + 1) L' st n P) : Gc κ M R Z cn sl pc L (vr x :: st) n P := by
  intro p e s m args below meth c H locs ls hA F hI hE hS hW hL
  subst hL'
  exact lv_astore_n F.1 F.2.1 hd hi hL.has hn rfl (fun ls' h' => k p e s m args below meth c H locs ls' hA F hI hE hS hW (Lr.set1 (v := vr x) hp h'))
theorem Gc.iinc {v x : Int} (i : Nat) {L' : List (Option AV)} (hl : L[i]? = some (some (vi x))) (hn : i < M.2.2.1) (hp : pL L i = true) (hd : decode M.2.1 pc = .ok (.iinc i v, 3)) (hL' : L.set i (some (vi (x + v))) = L') (k : Gc κ M R Z cn sl (pc + 3) L' st n P) : Gc κ M R Z cn sl pc L st n P := by
  intro p e s m args below meth c H locs ls hA F hI hE hS hW hL
  subst hL'
  have h0 : (i, cv κ (vi x)) ∈ aL κ L := aL_in hl
  obtain ⟨j, hj⟩ := List.getElem?_of_mem h0
  exact lv_iinc (v := Int32.ofInt (x + v)) F.1 F.2.1 hd hL.has (k := j) hj (Int32.ofInt_add x v).symm hn rfl (fun ls' h' => k p e s m args below meth c H locs ls' hA F hI hE hS hW (Lr.set1 (v := vi (x + v)) hp h'))
theorem Gc.goto {off : Int} {tgt : Nat} (hd : decode M.2.1 pc = .ok (.goto off, 3)) (ht : (pc : Int) + off = (tgt : Int)) (k : Gc κ M R Z cn sl tgt L st n P) : Gc κ M R Z cn sl pc L st n P := by
  intro p e s m args below meth c H locs ls hA F hI hE hS hW hL
  exact lv_goto F.1 F.2.1 hd ht (k p e s m args below meth c H locs ls hA F hI hE hS hW hL)
theorem Gc.icmp_ge {x y : Int} {off : Int} {tgt : Nat} (hd : decode M.2.1 pc = .ok (.if_icmp .ge off, 3)) (hr : (-2147483648 ≤ x ∧ x < 2147483648) ∧ (-2147483648 ≤ y ∧ y < 2147483648)) (ht : (pc : Int) + off = (tgt : Int)) (kt : y ≤ x → Gc κ M R Z cn sl tgt L st n P) (kf : ¬ (y ≤ x) → Gc κ M R Z cn sl (pc + 3) L st n P) : Gc κ M R Z cn sl pc L (vi y :: vi x :: st) n P := by
  intro p e s m args below meth c H locs ls hA F hI hE hS hW hL
  refine lv_icmp_ge (x := Int32.ofInt x) (y := Int32.ofInt y) F.1 F.2.1 hd ht (fun h => ?_) (fun h => ?_)
  · refine kt ?_ p e s m args below meth c H locs ls hA F hI hE hS hW hL
    simpa [i32_eq hr.1 hr.2, i32_lt hr.1 hr.2, i32_le hr.1 hr.2, i32_lt hr.2 hr.1, i32_le hr.2 hr.1] using h
  · refine kf ?_ p e s m args below meth c H locs ls hA F hI hE hS hW hL
    simpa [i32_eq hr.1 hr.2, i32_lt hr.1 hr.2, i32_le hr.1 hr.2, i32_lt hr.2 hr.1, i32_le hr.2 hr.1] using h
/-! new rows, new objects -/
theorem Wp.sz {H : Heap} (hW : Wp κ n P H) (ha : ad κ) (hn : n < NN) : H.size = kAd κ n := by rw [hW.1, ha.1 n hn]
theorem arrV_to {cI : ClassId} {N : Nat} {f g : Nat → Value} (h : ∀ j, j < N → f j = g j) : arrV cI N f = arrV cI N g := by
  unfold arrV
  congr 1
  refine congrArg Array.ofFn ?_
  funext j
  exact h j.val j.isLt
theorem Gc.arr {len : Nat} {x : Int} (ds : List Nat) (hn : n < NN) (hl : lay n = (0, len)) (hx : x = (len : Int)) (hds : ∀ j, j < len → ds.contains j = false → s0M n j = 0) (hA0 : Cond.arrayClass .int ∈ gw) {cn' sl' : Nat} (ec : cn + 1 = cn') (es : sl + len = sl') (hc : cn' ≤ R.cells) (hs : sl' ≤ R.slots) (hd : decode M.2.1 pc = .ok (.newarray .int, 2)) (kk : Gc κ M R Z cn' sl' (pc + 2) L (vr n :: st) (n + 1) (pu P n ds)) : Gc κ M R Z cn sl pc L (vi x :: st) n P := by
  intro p e s m args below meth c H locs ls hA F hI hE hS hW hL
  subst hx; subst ec; subst es
  have h4 : len < 4000 := by have := lay2 n; rw [hl] at this; exact this
  have hz := hW.sz hA hn
  have hi : Int32.ofInt (len : Int) = Int32.ofNat len := Int32.ofInt_eq_ofNat
  refine va_newaK (atype := .int) (n := Int32.ofInt (len : Int)) (N := len) (h := kAd κ n) F.1 F.2.1 (F.2.2.2.2.1 _ hA0) rfl hd rfl ?_ ?_ ?_ hc hs hz fun H1 cA e1 z1 o1 hAr hNm => ?_
  · rw [← i32_0, i32_lt ⟨by omega, by omega⟩ (by decide)]; omega
  · show (Int32.ofInt (len : Int)).toInt.toNat = _
    rw [i32_t ⟨by omega, by omega⟩]; omega
  · show len * componentBytes .int ≤ 536870912
    have : componentBytes .int = 4 := rfl
    rw [this]; omega
  · have hcA : cA = κ.2.2.1 0 := Option.some.inj (hNm.symm.trans (hE.1.1.2 0 _ rfl).2)
    subst hcA
    refine kk p e s m args below meth c H1 locs ls hA F hI hE ⟨Nat.le_trans hS.1 (by omega), fun q h1 h2 => (o1 q (by have := hS.1; omega)).trans (hS.2.1 q h1 h2), hS.2.2⟩ (hW.grow hA hn (by omega) (fun q hq => o1 q (by omega)) ?_) hL
    unfold cellR
    rw [hl]
    show H1[kAd κ n]? = some _
    rw [e1]
    congr 1
    refine arrV_to (fun j hj => ?_)
    unfold Rp deV fiV
    rw [pu_at, hl]
    show Value.int 0 = cv κ (if ds.contains j = true then vi 0 else vi (s0M n j))
    by_cases h : ds.contains j = true
    · rw [if_pos h]; rfl
    · rw [if_neg h, hds j hj (by simpa using h)]; rfl
end Make
