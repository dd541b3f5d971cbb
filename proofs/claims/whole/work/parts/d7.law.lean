/-! THE CLAIM OUT OF ONE WALK OF THE LAW'S BODY. Your part is whole_start (and what it stands on); all else here is the same for every law, but numbers. -/
def R_law : String := "ThreeDotsLaw"
def lw_P (b : Addr) (xs : List Int32) (args : Array Value) (s : State) : Prop := args = #[.ref b] ∧ s.IntsAt b xs ∧ xs.length ≤ 3072 ∧ (Jvm.Cond.and given_1 narrow_1).before args s = true
def lw_Q (_ : Array Value) (s : State) (o : Outcome) (t : State) : Prop := o = .returned (some (.int 1)) ∧ Framed s o t [] 600000 7302250
def lw_Z (below : List Frame) (a : Array Value) (s : State) : State → Prop := fun t => ∃ o, t.status = .running ∧ Ended t below o ∧ lw_Q a s o t
/-- the law's own end, with 1 on the stack, nothing written that was there before, its room as the claim has it -/
theorem lw_ret {p : Program} {l : Launch} {e : Env} {s : State} {m : MethodId} {below : List Frame} {meth : Method} {c : Code} {b : Nat} (hx : p.tables.exec = Jvm.exec) (hb : c.code = code) (hr : meth.sig.returnType = ret) (hlocks : meth.locks = false) {pc : Nat} {H : Heap} {ls : Array Slot} (hdg : decode code pc = .ok (.ireturn, 1)) : W p l e room_1 s m #[Value.ref b] below meth c H [] 600000 7302250 (lw_Z below #[Value.ref b] s) (F0 m pc ls [.int 1]) := by
  intro T hT X
  obtain ⟨fs, hret, hrun, hended, hW, hframe⟩ := X.leave (v := some (.int 1)) (hlocks := hlocks) (fun h => by rw [hr] at h; cases h)
  have hmeth' : T.vm.method? m = some meth := X.method'
  refine ⟨T.setFrames fs, ?_, .returned (some (.int 1)), hrun, hended, rfl, ⟨_, rfl⟩, hW, hframe⟩
  jvm_step X.here [X.here.top, hx, hb, hdg, hmeth', hr, ret, narrow_b1]
  (try refine ⟨rfl, ?_⟩); (try refine ⟨rfl, ?_⟩)
  first | (intro acts; rw [hret _ acts rfl rfl rfl]) | rw [hret _ _ rfl rfl rfl]
  exact Steps.refl _
/-- what holds at the law's entry: the machine, the code, the tables' words (any of lw_tbl by 'hts w (by decide +kernel)'), the script of L ints xs at the cell b, what the Statement gives of the start (any of its parts by flat_of_before) -/
def lw_At (p : Program) (s : State) (m : MethodId) (meth : Method) (c : Code) (b L : Nat) (xs : Nat → Int32) : Prop :=
  p.tables.exec = Jvm.exec ∧ c.code = code ∧ meth.sig.returnType = ret ∧ c.maxLocals = 4 ∧ s.vm.findClass R_law = some m.cls ∧ (∀ w ∈ lw_tbl, w.before #[Value.ref b] s = true) ∧ va_X b L xs s s.heap ∧ b < s.heap.size ∧ meth.locks = false ∧ (Jvm.Cond.and given_1 narrow_1).before #[Value.ref b] s = true
section LawRows
variable {κ : Kx} {M : Md} {E : En} {pc : Nat} {L : List (Option AV)} {st : List AV} {σ : Sg}
abbrev mL : Md := (yL_law, cL_law, 4, some .boolean)
def eLw (κ : Kx) : En := (room_1, 600000, 7302250, fun below args s t => (args = #[Value.ref (kAd κ 1202)] ∧ ∀ q, kA κ q → s.heap.size ≤ q) → lw_Z below args s t)
theorem G_lend : Go κ mL (eLw κ) 1336 L [vi 1] σ := by
  intro p e s m args below meth c H locs ls F hE hS hW hL
  have e1 : Int32.ofInt 1 = 1 := by decide
  show W p κ.1 e room_1 s m args below meth c H locs 600000 7302250 _ (F0 m 1336 ls [Value.int (Int32.ofInt 1)])
  rw [e1]
  by_cases h : args = #[Value.ref (kAd κ 1202)] ∧ ∀ q, kA κ q → s.heap.size ≤ q
  · obtain ⟨h1, h2⟩ := h
    subst h1
    refine va_forget (fun q hq => h2 _ (hS.2.2 q hq)) ?_
    intro T hT X
    obtain ⟨t, a, b⟩ := lw_ret F.1 F.2.1 F.2.2.2.2.2.1 F.2.2.2.2.2.2 dL_law_1336 T hT X
    exact ⟨t, a, fun _ => b⟩
  · intro T hT X
    have hlocks := F.2.2.2.2.2.2
    obtain ⟨t, a, -⟩ := W.zret (Qc := fun _ _ _ _ => True) (free := kA κ) (v := 1) (ty := .boolean) F.1 F.2.1 F.2.2.2.2.2.1 (by decide +kernel) (fun _ _ _ => trivial) hS.2.2 dL_law_1336 hlocks T hT X
    exact ⟨t, a, fun z => absurd z h⟩
theorem G_scr {i : Int} (hi : 0 ≤ i ∧ i < (κ.2.2.2.2.2.1 : Int)) (hn : κ.2.2.2.2.2.1 ≤ 3072) (hd : decode M.2.1 pc = .ok (.iaload, 1)) (k : Go κ M E (pc + 1) L (vi (κ.2.2.2.2.2.2 i.toNat).toInt :: st) σ) : Go κ M E pc L (vi i :: vr 1202 :: st) σ := by
  intro p e s m args below meth c H locs ls F hE hS hW hL
  have hX := hE.2.2.2.2.2.2.2.2.1
  have hb : kAd κ 1202 < s.heap.size := by
    obtain ⟨scr, h1, -⟩ := hX.1
    exact (Array.getElem?_eq_some_iff.mp h1).1
  obtain ⟨h1, h2⟩ := ix_in hi (by omega)
  refine va_sld F.1 F.2.1 hX.1 hb hX.2 hS (i := Int32.ofInt i) h1 hd ?_
  rw [h2]
  have h3 := k p e s m args below meth c H locs ls F hE hS hW hL
  have e1 : Int32.ofInt (κ.2.2.2.2.2.2 i.toNat).toInt = κ.2.2.2.2.2.2 i.toNat := Int32.ofInt_toInt _
  have h4 : W p κ.1 e E.1 s m args below meth c H locs E.2.1 E.2.2.1 (E.2.2.2 below args s) (F0 m (pc + 1) ls (Value.int (Int32.ofInt (κ.2.2.2.2.2.2 i.toNat).toInt) :: st.map (cv κ))) := h3
  rw [e1] at h4
  exact h4
theorem G_slen (hd : decode M.2.1 pc = .ok (.arraylength, 1)) (k : Go κ M E (pc + 1) L (vi (κ.2.2.2.2.2.1 : Int) :: st) σ) : Go κ M E pc L (vr 1202 :: st) σ := by
  intro p e s m args below meth c H locs ls F hE hS hW hL
  have hX := hE.2.2.2.2.2.2.2.2.1
  have hb : kAd κ 1202 < s.heap.size := by
    obtain ⟨scr, h1, -⟩ := hX.1
    exact (Array.getElem?_eq_some_iff.mp h1).1
  refine va_slen F.1 F.2.1 hX.1 hb hX.2 hS hd ?_
  have h4 : W p κ.1 e E.1 s m args below meth c H locs E.2.1 E.2.2.1 (E.2.2.2 below args s) (F0 m (pc + 1) ls (Value.int (Int32.ofInt (κ.2.2.2.2.2.1 : Int)) :: st.map (cv κ))) := k p e s m args below meth c H locs ls F hE hS hW hL
  rw [Int32.ofInt_eq_ofNat] at h4
  exact h4
theorem Go.callE {M' : Md} {d' n idx c k : Nat} {C : String} {Q' : Option AV → Sg → Prop} (as rest : List AV) (hd : decode M.2.1 pc = .ok (.invokevirtual idx, 3)) (ck : ckB M.1.cls idx M' n ∧ Cond.instanceMethod M'.1 ∈ gw ∧ Cond.selects C M'.1 M'.1 ∈ gw) (hl : lay k = (1, c)) (hC : (vwCl[c]?).map (fun q => q.1) = some C) (hst : st = as.reverse ++ vr k :: rest) (hn : as.length = n) (hW8 : (rest.map catA).sum ≤ 8) (hR : d' + 1 ≤ E.1.frames ∧ 40 * (d' + 1) ≤ E.1.locals) (hcs : E.2.1 ≤ E.1.cells ∧ E.2.2.1 ≤ E.1.slots) (hc : Con κ M' d' (vr k :: as) σ Q')
    (kk : ∀ r σ', Q' r σ' → Go κ M E (pc + 3) L (r.toList ++ rest) σ') : Go κ M E pc L st σ := by
  intro p e s m args below meth cd H locs ls F hE hS hWd hL
  obtain ⟨⟨C', T0, N⟩, hq, hC2⟩ := Option.map_eq_some_iff.mp hC
  have hC3 : C' = C := hC2
  subst hC3
  have hrecv : ∃ cellB : Cell, H[kAd κ k]? = some cellB ∧ cellB.vm.isStatics = false ∧ s.vm.findClass C' = some cellB.cls := by
    obtain ⟨cell, q1, q2, q3, -⟩ := hWd.obj (lay_lt hl (by show 1 < 9; decide)) hl hq
    exact ⟨cell, q1, by rw [q3]; rfl, by rw [q2]; exact (hE.1.1 c _ hq).2.1⟩
  have cb : CallB E.1 s args M.1.cls idx M'.1 M'.2.1 M'.2.2.1 M'.2.2.2 (wsM M') (rmD d') 0 0 n := by
    obtain ⟨h1, h2, h3, h4, h5, h6, h7⟩ := ck.1
    refine callB_of n F.2.2.2.2.1 (gwM h3) rfl rfl rfl (F.2.2.2.2.1 _ h2) (F.2.2.2.2.1 _ h1) ⟨h4, h5, h6⟩ ⟨hR.1, ?_⟩
    show 8 + (M'.2.2.1 + 11) + 40 * d' ≤ _
    have := hR.2
    omega
  have hr := va_runV (As := as.map (cv κ)) (n := n) (b := kAd κ k) (C := C') (rest := rest.map (cv κ)) (g := F0 m pc ls (st.map (cv κ))) (below := below) (meth := meth) (locs := locs) (cells := E.2.1) (slots := E.2.2.1) (e := e) (H := H) ⟨F.1, F.2.1, F.2.2.1, F.2.2.2.1, F.2.2.2.2.1⟩ hc ⟨cb, F.2.2.2.2.1 _ ck.2.1, F.2.2.2.2.1 _ ck.2.2⟩ ⟨con_blind (κ := κ) (as := vr k :: as), hrecv, fun U hU hW => ⟨rfl, hE.later hS hU hW, by rw [hU]; exact hWd⟩⟩ rfl (by rw [List.length_map]; exact hn) hL.1 (by rw [hst, List.map_append, List.map_reverse]; rfl) (by show 2 * 0 + _ ≤ 8; rw [cat_sum]; omega) hd hcs
  intro T hT X
  obtain ⟨v, st₀, t, T', L', h0, X', hL', e1, e2, ⟨⟨r, σ', hv, hq', hWd'⟩, hz, hk⟩, stp⟩ := hr T hT X
  cases hv
  rw [h0] at hz hk
  have hk2 := kk r σ' hq' p e s m args below meth cd T'.heap (locs ++ L') ls F hE ⟨Nat.le_trans hS.1 (by rw [e1]; exact hz), fun q h1 h2 => by rw [e1, hk q (Nat.lt_of_lt_of_le h1 hS.1) h2]; exact hS.2.1 q h1 h2, fun q hq => by
      rcases List.mem_append.mp hq with h | h
      · exact hS.2.2 q h
      · exact hL' q h⟩ (by rw [e1]; exact hWd') hL
  obtain ⟨t2, a1, b1⟩ := hk2 T' rfl X'
  refine ⟨t2, stp t2 ?_, b1⟩
  have e3 : (r.map (cv κ)).toList ++ rest.map (cv κ) = (r.toList ++ rest).map (cv κ) := by cases r <;> rfl
  show Steps p.tables e below (T'.setTop { F0 m pc ls (st.map (cv κ)) with pc := pc + 3, stack := (r.map (cv κ)).toList ++ rest.map (cv κ) }) t2
  rw [e3]
  exact a1
theorem ms_sw (μ σ : Sg) : ms false μ σ = ms true σ μ := by
  funext k j
  unfold ms
  by_cases h : 172 ≤ k
  · simp [h]
  · simp [h]
/-- a call of the law: what it needs of the words -/
def LK (idx : Nat) (M' : Md) (n d' k : Nat) : Prop := ∃ (c : Nat) (C : String), (ckB mL.1.cls idx M' n ∧ Cond.instanceMethod M'.1 ∈ gw ∧ Cond.selects C M'.1 M'.1 ∈ gw) ∧ lay k = (1, c) ∧ (vwCl[c]?).map (fun q => q.1) = some C ∧ d' < 60
variable {b : Bool} {μ τ : Sg} {M' : Md} {n d' idx k : Nat} {r : Int}
theorem lwI (as rest : List AV) (hk : LK idx M' n d' k) (hd : decode cL_law pc = .ok (.invokevirtual idx, 3)) (hst : st = as.reverse ++ vr k :: rest) (hn : as.length = n) (hW8 : (rest.map catA).sum ≤ 8) {o : Option (Int × Sg)} (hc : CtI κ M' d' (vr k :: as) b μ σ o) (ho : o = some (r, τ)) (kk : inR r → okS τ → Go κ mL (eLw κ) (pc + 3) L (vi r :: rest) (ms b μ τ)) : Go κ mL (eLw κ) pc L st (ms b μ σ) := by
  obtain ⟨c, C, h1, h2, h3, h4⟩ := hk
  exact Go.callE as rest hd h1 h2 h3 hst hn hW8 ⟨by show d' + 1 ≤ 2048; omega, by show 40 * (d' + 1) ≤ 84000; omega⟩ ⟨Nat.le_refl _, Nat.le_refl _⟩ (hc r τ ho) (fun r' σ' ⟨e1, e2, e3, e4⟩ => by subst e1; subst e2; exact kk e3 e4)
theorem lwZ (as rest : List AV) (hk : LK idx M' n d' k) (hd : decode cL_law pc = .ok (.invokevirtual idx, 3)) (hst : st = as.reverse ++ vr k :: rest) (hn : as.length = n) (hW8 : (rest.map catA).sum ≤ 8) {o : Option (Int × Sg)} (hc : CtZ κ M' d' (vr k :: as) b μ σ o) (ho : o = some (r, τ)) (kk : inR r → okS τ → Go κ mL (eLw κ) (pc + 3) L (vi r :: rest) (ms b μ τ)) : Go κ mL (eLw κ) pc L st (ms b μ σ) := by
  obtain ⟨c, C, h1, h2, h3, h4⟩ := hk
  refine Go.callE as rest hd h1 h2 h3 hst hn hW8 ⟨by show d' + 1 ≤ 2048; omega, by show 40 * (d' + 1) ≤ 84000; omega⟩ ⟨Nat.le_refl _, Nat.le_refl _⟩ (hc r τ ho) (fun r' σ' ⟨e1, e2, e3, e4⟩ => ?_)
  subst e1; subst e2
  refine kk ?_ e4
  rcases e3 with z | z <;> subst z <;> exact ⟨by decide, by decide⟩
theorem lwRI (as rest : List AV) (hk : LK idx M' n d' k) (hd : decode cL_law pc = .ok (.invokevirtual idx, 3)) (hst : st = as.reverse ++ vr k :: rest) (hn : as.length = n) (hW8 : (rest.map catA).sum ≤ 8) {o : Option Int} (hc : CtRI κ M' d' (vr k :: as) b μ σ o) (ho : o = some r) (kk : inR r → Go κ mL (eLw κ) (pc + 3) L (vi r :: rest) (ms b μ σ)) : Go κ mL (eLw κ) pc L st (ms b μ σ) := by
  obtain ⟨c, C, h1, h2, h3, h4⟩ := hk
  exact Go.callE as rest hd h1 h2 h3 hst hn hW8 ⟨by show d' + 1 ≤ 2048; omega, by show 40 * (d' + 1) ≤ 84000; omega⟩ ⟨Nat.le_refl _, Nat.le_refl _⟩ (hc r ho) (fun r' σ' ⟨e1, e2, e3⟩ => by subst e1; subst e2; exact kk e3)
theorem lwRZ (as rest : List AV) (hk : LK idx M' n d' k) (hd : decode cL_law pc = .ok (.invokevirtual idx, 3)) (hst : st = as.reverse ++ vr k :: rest) (hn : as.length = n) (hW8 : (rest.map catA).sum ≤ 8) {o : Option Int} (hc : CtRZ κ M' d' (vr k :: as) b μ σ o) (ho : o = some r) (kk : inR r → Go κ mL (eLw κ) (pc + 3) L (vi r :: rest) (ms b μ σ)) : Go κ mL (eLw κ) pc L st (ms b μ σ) := by
  obtain ⟨c, C, h1, h2, h3, h4⟩ := hk
  refine Go.callE as rest hd h1 h2 h3 hst hn hW8 ⟨by show d' + 1 ≤ 2048; omega, by show 40 * (d' + 1) ≤ 84000; omega⟩ ⟨Nat.le_refl _, Nat.le_refl _⟩ (hc r ho) (fun r' σ' ⟨e1, e2, e3⟩ => ?_)
  subst e1; subst e2
  refine kk ?_
  rcases e3 with z | z <;> subst z <;> exact ⟨by decide, by decide⟩
end LawRows
