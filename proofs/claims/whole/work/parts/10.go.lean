/-! the words that hold in every method of ours -/
def gw : List Cond := lw_tbl.filter goodWord
theorem gw_good : GoodIn gw gw := fun w h => ⟨h, good_of_word (List.mem_filter.mp h).2⟩
theorem gw_at {w : Cond} (i : Nat) (h : lw_tbl[i]? = some w) (g : goodWord w = true) : w ∈ gw := List.mem_filter.mpr ⟨List.mem_of_getElem? h, g⟩
theorem gw_tb {args : Array Value} {s : State} (h : ∀ w ∈ lw_tbl, w.before args s = true) : ∀ w ∈ gw, w.before args s = true := fun w hw => h w (List.mem_filter.mp hw).1
/-! values, memory, context -/
abbrev AV : Type := Int ⊕ (Int ⊕ Option Nat)
abbrev vi (n : Int) : AV := .inl n
abbrev vl (n : Int) : AV := .inr (.inl n)
abbrev vr (k : Nat) : AV := .inr (.inr (some k))
abbrev Sg : Type := Nat → Nat → Int
def su (σ : Sg) (k j : Nat) (v : Int) : Sg := fun k' j' => if k' = k ∧ j' = j then v else σ k' j'
theorem su_at (σ : Sg) (k j : Nat) (v : Int) : su σ k j v k j = v := by simp [su]
theorem su_k {σ : Sg} {k j k' j' : Nat} {v : Int} (h : k' ≠ k) : su σ k j v k' j' = σ k' j' := by simp [su, h]
theorem su_j {σ : Sg} {k j k' j' : Nat} {v : Int} (h : j' ≠ j) : su σ k j v k' j' = σ k' j' := by simp [su, h]
abbrev Kx : Type := Launch × va_G × (Nat → ClassId) × (Nat → Nat) × (Nat → Prop) × Nat × (Nat → Int32)
abbrev kAd (κ : Kx) : Nat → Nat := κ.2.2.2.1
abbrev kA (κ : Kx) : Nat → Prop := κ.2.2.2.2.1
def cv (κ : Kx) : AV → Value
  | .inl n => .int (Int32.ofInt n)
  | .inr (.inl n) => .long (Int64.ofInt n)
  | .inr (.inr (some k)) => .ref (kAd κ k)
  | .inr (.inr none) => .null
abbrev Md : Type := MethodName × ByteArray × Nat × Option FieldType
abbrev En : Type := Room × Nat × Nat × (List Frame → Array Value → State → State → Prop)
/-! the world: 189 cells by number; (0, n) a row of n ints, (1, c) an object of class c, (2, n) a row of sheets, (3, n) a row of talks -/
def layT : List (Nat × Nat) := [(1, 8), (1, 7), (1, 6), (0, 2), (0, 2), (0, 2), (0, 60), (0, 60), (0, 60), (0, 60), (0, 60), (0, 60), (0, 60), (0, 60), (0, 60), (0, 600), (2, 4), (1, 5), (0, 64), (0, 400), (1, 5), (0, 64), (0, 0), (1, 5), (0, 96), (0, 0), (1, 5), (0, 16), (0, 0), (0, 10), (0, 8), (1, 7), (1, 6), (0, 2), (0, 2), (0, 2), (0, 60), (0, 60), (0, 60), (0, 60), (0, 60), (0, 60), (0, 60), (0, 60), (0, 60), (0, 600), (2, 4), (1, 5), (0, 64), (0, 400), (1, 5), (0, 64), (0, 0), (1, 5), (0, 96), (0, 0), (1, 5), (0, 16), (0, 0), (0, 10), (0, 8), (1, 3), (3, 6), (1, 6), (0, 2), (0, 2), (0, 2), (0, 60), (0, 60), (0, 60), (0, 60), (0, 60), (0, 60), (0, 60), (0, 60), (0, 60), (1, 6), (0, 2), (0, 2), (0, 2), (0, 60), (0, 60), (0, 60), (0, 60), (0, 60), (0, 60), (0, 60), (0, 60), (0, 60), (1, 6), (0, 2), (0, 2), (0, 2), (0, 60), (0, 60), (0, 60), (0, 60), (0, 60), (0, 60), (0, 60), (0, 60), (0, 60), (1, 6), (0, 2), (0, 2), (0, 2), (0, 60), (0, 60), (0, 60), (0, 60), (0, 60), (0, 60), (0, 60), (0, 60), (0, 60), (1, 6), (0, 2), (0, 2), (0, 2), (0, 60), (0, 60), (0, 60), (0, 60), (0, 60), (0, 60), (0, 60), (0, 60), (0, 60), (1, 6), (0, 2), (0, 2), (0, 2), (0, 60), (0, 60), (0, 60), (0, 60), (0, 60), (0, 60), (0, 60), (0, 60), (0, 60), (1, 4), (1, 5), (0, 96), (0, 400), (0, 400), (0, 401), (0, 401), (0, 401), (1, 2), (0, 10), (0, 64), (1, 0), (1, 6), (0, 2), (0, 2), (0, 2), (0, 60), (0, 60), (0, 60), (0, 60), (0, 60), (0, 60), (0, 60), (0, 60), (0, 60), (1, 1), (0, 60), (0, 10), (0, 60), (0, 60), (0, 61), (1, 9), (0, 2217), (0, 2217), (0, 3288), (0, 548), (0, 64), (0, 820), (0, 80), (0, 400), (0, 420), (0, 11), (0, 4), (0, 61), (0, 60), (0, 60), (0, 60), (0, 60)]
def lay (k : Nat) : Nat × Nat := layT.getD k (9, 0)
/-- what slot j of an object (class c, number k) or of a row of references is: none an int; some (some q) always the cell q; some none the cell whose number the memory holds -/
def sk (c k j : Nat) : Option (Option Nat) := match c, j with
  | 0, 0 => some (some 1)
  | 0, 1 => some (some 149)
  | 0, 2 => some none
  | 1, 0 => some (some (k + 1))
  | 1, 2 => some (some (k + 2))
  | 1, 3 => some (some (k + 3))
  | 1, 4 => some (some (k + 4))
  | 2, 0 => some (some (k + 1))
  | 2, 1 => some (some (k + 2))
  | 3, 0 => some (some (k + 1))
  | 4, 0 => some (some (k + 1))
  | 4, 4 => some (some (k + 4))
  | 4, 5 => some (some (k + 5))
  | 4, 6 => some (some (k + 6))
  | 4, 7 => some (some (k + 7))
  | 5, 4 => some (some (k + 1))
  | 5, 5 => some (some (k + 2))
  | 6, 6 => some (some (k + 1))
  | 6, 7 => some (some (k + 2))
  | 6, 8 => some (some (k + 3))
  | 6, 9 => some (some (k + 4))
  | 6, 10 => some (some (k + 5))
  | 6, 11 => some (some (k + 6))
  | 6, 12 => some (some (k + 7))
  | 6, 13 => some (some (k + 8))
  | 6, 14 => some (some (k + 9))
  | 6, 15 => some (some (k + 10))
  | 6, 16 => some (some (k + 11))
  | 6, 17 => some (some (k + 12))
  | 7, 0 => some (some (k + 1))
  | 7, 1 => some (some (k + 14))
  | 7, 2 => some (some (k + 15))
  | 7, 3 => some (some (k + 28))
  | 7, 5 => some (some (k + 29))
  | 8, 0 => some (some 1)
  | 8, 1 => some (some 31)
  | 8, 2 => some (some 61)
  | 8, 3 => some (some 141)
  | 8, 4 => some (some 149)
  | 8, 5 => some (some 152)
  | 8, 6 => some (some 153)
  | 8, 7 => some (some 166)
  | 8, 8 => some (some 171)
  | 9, 0 => some (some 173)
  | 9, 1 => some (some 174)
  | 9, 2 => some (some 175)
  | 9, 3 => some (some 176)
  | 9, 6 => some (some 177)
  | 9, 7 => some (some 178)
  | 9, 8 => some (some 179)
  | 9, 9 => some (some 180)
  | 9, 10 => some (some 181)
  | 9, 11 => some (some 182)
  | 9, 29 => some (some 183)
  | 9, 30 => some (some 184)
  | 9, 31 => some (some 185)
  | 9, 32 => some (some 186)
  | 9, 33 => some (some 187)
  | 9, 34 => some (some 188)
  | 12, j => some (some (k + 1 + 3 * j))
  | 13, j => some (some (k + 1 + 13 * j))
  | _, _ => none
def sv (σ : Sg) (c k j : Nat) : AV := match sk c k j with
  | none => vi (σ k j)
  | some none => vr (σ k j).toNat
  | some (some q) => vr q
def cellAt (κ : Kx) (σ : Sg) (H : Heap) (k : Nat) : Prop := match lay k with
  | (0, n) => H[kAd κ k]? = some (arrV (κ.2.2.1 0) n (fun j => .int (Int32.ofInt (σ k j))))
  | (1, c) => t_OB (kAd κ k) (κ.2.1.1 c) (vwCl.getD c ("", TX0, 0)).2.2 (κ.2.1.2 c) H (fun j => cv κ (sv σ c k j))
  | (2, n) => H[kAd κ k]? = some (arrV (κ.2.2.1 1) n (fun j => cv κ (sv σ 12 k j)))
  | (3, n) => H[kAd κ k]? = some (arrV (κ.2.2.1 2) n (fun j => cv κ (sv σ 13 k j)))
  | _ => True
def NN : Nat := 189
def Wd (κ : Kx) (σ : Sg) (H : Heap) : Prop := ∀ k, k < NN → cellAt κ σ H k
/-! texts and tables that were there before -/
def sOwn : List (String × Nat × String) := [("ThreeDots$Reader", 61, "delay lasts kiss hurt go when or and not one cross took long kisses stop bus hour ticks many"), ("ThreeDots$Reader", 63, "one from for free bus busy sleep"), ("ThreeDots$Reader", 65, "at one says kisses stop deletes"), ("ThreeDots$Reader", 67, "sign easy cross"), ("ThreeDotsModel", 137, "when"), ("ThreeDotsModel", 139, "or"), ("ThreeDotsModel", 141, "and"), ("ThreeDotsModel", 143, "not"), ("ThreeDotsModel", 145, "delay"), ("ThreeDotsModel", 147, "lasts"), ("ThreeDotsModel", 149, "kiss"), ("ThreeDotsModel", 151, "hurt"), ("ThreeDotsModel", 153, "go"), ("ThreeDotsModel", 113, "one"), ("ThreeDotsModel", 119, "cross"), ("ThreeDotsModel", 121, "took"), ("ThreeDotsModel", 123, "long"), ("ThreeDotsModel", 125, "kisses"), ("ThreeDotsModel", 127, "stop"), ("ThreeDotsModel", 129, "bus"), ("ThreeDotsModel", 131, "hour"), ("ThreeDotsModel", 133, "ticks"), ("ThreeDotsModel", 135, "many"), ("ThreeDotsModel", 158, "from"), ("ThreeDotsModel", 160, "for"), ("ThreeDotsModel", 162, "free"), ("ThreeDotsModel", 164, "busy"), ("ThreeDotsModel", 166, "sleep"), ("ThreeDotsModel", 168, "at"), ("ThreeDotsModel", 169, "says"), ("ThreeDotsModel", 171, "deletes"), ("ThreeDotsModel", 185, "sign"), ("ThreeDotsModel", 187, "easy")]
def sLen : List Nat := sOwn.map (fun q => q.2.2.length)
def sByt : List (List Int32) := sOwn.map (fun q => q.2.2.toList.map (fun c => Int32.ofNat c.toNat))
def nStr : Nat := 33
def mLo (j : Nat) : Int := match j with
  | 0 => 1
  | 1 => 1
  | 2 => 0
  | 3 => -50
  | _ => 0
def mHi (j : Nat) : Int := match j with
  | 0 => 999
  | 1 => 99
  | 2 => 9
  | 3 => 50
  | _ => 1000
/-- names: 1000 + 2 i a text, 1001 + 2 i its bytes, 1200 and 1201 the tables LEAST and MOST, 1202 the script -/
def Ev (κ : Kx) (s : State) : Prop :=
  va_K κ.2.1 vwCl [(κ.2.2.1 0, .int), (κ.2.2.1 1, .object "ThreeDots$Sheet"), (κ.2.2.1 2, .object "ThreeDots$Talk")] s ∧
  (∀ i j, i < NN → j < NN → kAd κ i = kAd κ j → i = j) ∧ (∀ i, i < NN → kA κ (kAd κ i)) ∧
  vk_S nStr sLen sByt (fun i => kAd κ (1000 + 2 * i)) (fun i => kAd κ (1001 + 2 * i)) (kA κ) s s.heap ∧
  (∀ (i : Nat) (q : String × Nat × String), sOwn[i]? = some q → vk_R q.1 q.2.1 q.2.2 (kAd κ (1000 + 2 * i)) s) ∧
  va_Z "java/lang/String" "COMPACT_STRINGS" "Z" (.int 1) (kA κ) s s.heap ∧
  (va_Z "ThreeDots$Judge" "LEAST" "[I" (.ref (kAd κ 1200)) (kA κ) s s.heap ∧ va_T .int (kAd κ 1200) 5 (fun j => .int (Int32.ofInt (mLo j))) (kA κ) s s.heap) ∧
  (va_Z "ThreeDots$Judge" "MOST" "[I" (.ref (kAd κ 1201)) (kA κ) s s.heap ∧ va_T .int (kAd κ 1201) 5 (fun j => .int (Int32.ofInt (mHi j))) (kA κ) s s.heap) ∧
  (va_X (kAd κ 1202) κ.2.2.2.2.2.1 κ.2.2.2.2.2.2 s s.heap ∧ ¬ kA κ (kAd κ 1202)) ∧
  ∃ w : AV, (w = .inr (.inr none) ∨ w = vr 1203) ∧ va_Z "jdk/internal/util/Preconditions" "SIOOBE_FORMATTER" "Ljava/util/function/BiFunction;" (cv κ w) (kA κ) s s.heap
def Lr (κ : Kx) (nL : Nat) (L : List (Option AV)) (ls : Array Slot) : Prop := ls.size = nL ∧ lv_wf ls ∧ ∀ (i : Nat) (v : AV), L[i]? = some (some v) → ls[i]? = some (.val (cv κ v))
def Fx (M : Md) (p : Program) (s : State) (m : MethodId) (args : Array Value) (meth : Method) (c : Code) : Prop :=
  p.tables.exec = Jvm.exec ∧ c.code = M.2.1 ∧ c.maxLocals = M.2.2.1 ∧ s.vm.findClass M.1.cls = some m.cls ∧ (∀ w ∈ gw, w.before args s = true) ∧ meth.sig.returnType = M.2.2.2 ∧ meth.locks = false
/-- the machine in method M at pc, with locals L, stack st and memory σ, comes to the end E -/
def Go (κ : Kx) (M : Md) (E : En) (pc : Nat) (L : List (Option AV)) (st : List AV) (σ : Sg) : Prop :=
  ∀ (p : Program) (e : Env) (s : State) (m : MethodId) (args : Array Value) (below : List Frame) (meth : Method) (c : Code) (H : Heap) (locs : List Loc) (ls : Array Slot),
    Fx M p s m args meth c → Ev κ s → va_S (kA κ) s.heap H locs → Wd κ σ H → Lr κ M.2.2.1 L ls →
    W p κ.1 e E.1 s m args below meth c H locs E.2.1 E.2.2.1 (E.2.2.2 below args s) (F0 m pc ls (st.map (cv κ)))
/-! a contract -/
def rmD (d : Nat) : Room := { frames := d, cells := 0, slots := 0, locals := 40 * d }
def Qc (κ : Kx) (Q : Option AV → Sg → Prop) : Array Value → State → Outcome → State → Prop := fun _ st o t => (∃ (r : Option AV) (σ : Sg), o = .returned (r.map (cv κ)) ∧ Q r σ ∧ Wd κ σ t.heap) ∧ va_F (kA κ) st t
def eM (κ : Kx) (d : Nat) (Q : Option AV → Sg → Prop) : En := (rmD d, 0, 0, fun below args s => MQ below (Qc κ Q) args s 0 0 (kA κ))
def wsM (M : Md) : List Cond := .code M.1 M.2.1 M.2.2.1 M.2.2.2 :: gw
def Con (κ : Kx) (M : Md) (d : Nat) (as : List AV) (σ : Sg) (Q : Option AV → Sg → Prop) : Prop :=
  Met κ.1 M.1 (wsM M) (rmD d) (va_Pc (as.map (cv κ)) (fun U => Ev κ U ∧ Wd κ σ U.heap)) (Qc κ Q) 0 0 (kA κ)
