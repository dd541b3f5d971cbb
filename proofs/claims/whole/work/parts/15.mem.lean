section GoMem
variable {κ : Kx} {M : Md} {E : En} {pc : Nat} {L : List (Option AV)} {st : List AV} {σ μ : Sg} {b : Bool}
variable {α : Type} {o : Option α} {K : α → Prop}
/-! two memories, side by side: b says whose cells σ holds (false: the class's, true: the reference's) -/
def ms (b : Bool) (μ σ : Sg) : Sg := fun k j => if decide (172 ≤ k) = b then σ k j else μ k j
def LB (b : Bool) (k : Nat) (q : Nat × Nat) : Prop := lay k = q ∧ decide (172 ≤ k) = b
theorem ms_at {k j : Nat} (h : decide (172 ≤ k) = b) : ms b μ σ k j = σ k j := if_pos h
theorem ms_su {k j : Nat} {v : Int} (h : decide (172 ≤ k) = b) : su (ms b μ σ) k j v = ms b μ (su σ k j v) := by
  funext k' j'
  unfold su ms
  dsimp only
  by_cases h1 : k' = k ∧ j' = j
  · rw [if_pos h1, if_pos h1, if_pos (by rw [h1.1]; exact h)]
  · rw [if_neg h1, if_neg h1]
theorem Rk.gI {idx c j k : Nat} (hf : FL M.1.cls idx c j) (hC : CL c) (hs : sk c k j = none) (hl : LB b k (1, c)) (hd : decode M.2.1 pc = .ok (.getfield idx, 3)) (kk : Rk κ M E (pc + 3) L (vi (σ k j) :: st) (ms b μ σ) o K) : Rk κ M E pc L (vr k :: st) (ms b μ σ) o K :=
  fun a ha hk => G_getI hf hC hs hl.1 hd (by rw [ms_at hl.2]; exact kk a ha hk)
theorem Rk.gR {idx c j k : Nat} (q : Nat) (hf : FL M.1.cls idx c j) (hC : CL c) (hs : sk c k j = some (some q)) (hl : LB b k (1, c)) (hd : decode M.2.1 pc = .ok (.getfield idx, 3)) (kk : Rk κ M E (pc + 3) L (vr q :: st) (ms b μ σ) o K) : Rk κ M E pc L (vr k :: st) (ms b μ σ) o K :=
  fun a ha hk => G_getR q hf hC hs hl.1 hd (kk a ha hk)
theorem tk_LB {t : Nat} (h : tk t = true) : LB false t (1, 6) := by
  unfold tk at h
  simp only [Bool.and_eq_true, beq_iff_eq, decide_eq_true_eq] at h
  exact ⟨h.1, by simp; omega⟩
theorem Rk.gD {idx c j k : Nat} (hf : FL M.1.cls idx c j) (hC : CL c) (hs : sk c k j = some none) (hl : LB b k (1, c)) (hd : decode M.2.1 pc = .ok (.getfield idx, 3)) (kk : LB false (σ k j).toNat (1, 6) → Rk κ M E (pc + 3) L (vr (σ k j).toNat :: st) (ms b μ σ) o K) : Rk κ M E pc L (vr k :: st) (ms b μ σ) (isT (σ k j).toNat o) K := by
  intro a ha hk
  unfold isT at ha
  by_cases h : tk (σ k j).toNat = true
  · rw [if_pos h] at ha
    exact G_getfield hf hC hl.1 hd (by rw [sv_d hs, ms_at hl.2]; exact kk (tk_LB h) a ha hk)
  · rw [if_neg h] at ha; cases ha
theorem Rk.pI {idx c j k : Nat} {v v' : Int} {f : Sg → Option α} (hok : okS σ) (nv : nm v v') (hf : FL M.1.cls idx c j) (hC : CL c) (hfin : ((vwCl.getD c ("", TX0, 0)).2.1 j).2.2 = ("I", false)) (hs : sk c k j = none) (hl : LB b k (1, c)) (hd : decode M.2.1 pc = .ok (.putfield idx, 3)) (kk : ∀ τ, okS τ → Rk κ M E (pc + 3) L st (ms b μ τ) (f τ) K) : Rk κ M E pc L (vi v :: vr k :: st) (ms b μ σ) (ll (su σ k j v') f) K :=
  fun a ha hk => Go.n0 nv (G_putI hf hC hfin hs hl.1 hd (by rw [ms_su hl.2]; exact kk _ (okS_su hok nv.1) a ha hk))
theorem Rk.pZ {idx c j k : Nat} {v : Int} {f : Sg → Option α} (hok : okS σ) (hz : inZ v) (hf : FL M.1.cls idx c j) (hC : CL c) (hfin : ((vwCl.getD c ("", TX0, 0)).2.1 j).2.2 = ("Z", false)) (hs : sk c k j = none) (hl : LB b k (1, c)) (hd : decode M.2.1 pc = .ok (.putfield idx, 3)) (kk : ∀ τ, okS τ → Rk κ M E (pc + 3) L st (ms b μ τ) (f τ) K) : Rk κ M E pc L (vi v :: vr k :: st) (ms b μ σ) (ll (su σ k j v) f) K :=
  fun a ha hk => G_putZ hz hf hC hfin hs hl.1 hd (by rw [ms_su hl.2]; exact kk _ (okS_su hok hz.R) a ha hk)
theorem Rk.pD {idx c j k q c' : Nat} {C : String} {f : Sg → Option α} (hok : okS σ) (hq : LB false q (1, c')) (hf : FL M.1.cls idx c j) (hC : CL c) (hfin : ((vwCl.getD c ("", TX0, 0)).2.1 j).2.2.2 = false) (hty : parseFieldDescriptor ((vwCl.getD c ("", TX0, 0)).2.1 j).2.2.1 = some (.object C)) (hs : sk c k j = some none) (hl : LB b k (1, c)) (hd : decode M.2.1 pc = .ok (.putfield idx, 3)) (kk : ∀ τ, okS τ → Rk κ M E (pc + 3) L st (ms b μ τ) (f τ) K) : Rk κ M E pc L (vr q :: vr k :: st) (ms b μ σ) (ll (su σ k j (q : Int)) f) K := by
  have h9 : q < 189 := lay_lt hq.1 (by show 1 < 9; decide)
  exact fun a ha hk => G_putD hf hC hfin hty hs hl.1 hd (by rw [ms_su hl.2]; exact kk _ (okS_su hok (by unfold inR; omega)) a ha hk)
theorem arr_small {k n : Nat} (h : lay k = (0, n)) : n < 2147483648 := by
  have h1 : k < 189 := lay_lt h (by show 0 < 9; decide)
  have h2 : ∀ k, k < 189 → (lay k).2 < 2147483648 := by decide +kernel
  have h3 := h2 k h1
  rw [h] at h3; exact h3
theorem Rk.al {k n : Nat} {i : Int} (hl : LB b k (0, n)) (hd : decode M.2.1 pc = .ok (.iaload, 1)) (kk : (0 ≤ i ∧ i < (n : Int)) → Rk κ M E (pc + 1) L (vi (σ k i.toNat) :: st) (ms b μ σ) o K) : Rk κ M E pc L (vi i :: vr k :: st) (ms b μ σ) (ix i (n : Int) o) K :=
  Rk.qix (fun hi a ha hk => G_iaload hl.1 hi hd (by rw [ms_at hl.2]; exact kk hi a ha hk) (arr_small hl.1))
theorem Rk.alc {k n : Nat} {i : Int} (j : Nat) (hi : i = (j : Int)) (hj : j < n) (hl : LB b k (0, n)) (hd : decode M.2.1 pc = .ok (.iaload, 1)) (kk : Rk κ M E (pc + 1) L (vi (σ k j) :: st) (ms b μ σ) o K) : Rk κ M E pc L (vi i :: vr k :: st) (ms b μ σ) o K := by
  subst hi
  exact fun a ha hk => G_iaload hl.1 ⟨by omega, by omega⟩ hd (by rw [ms_at hl.2, Int.toNat_natCast]; exact kk a ha hk) (arr_small hl.1)
theorem Rk.as {k n : Nat} {i v v' : Int} {f : Sg → Option α} (hok : okS σ) (nv : nm v v') (hl : LB b k (0, n)) (hd : decode M.2.1 pc = .ok (.iastore, 1)) (kk : (0 ≤ i ∧ i < (n : Int)) → ∀ τ, okS τ → Rk κ M E (pc + 1) L st (ms b μ τ) (f τ) K) : Rk κ M E pc L (vi v :: vi i :: vr k :: st) (ms b μ σ) (ix i (n : Int) (ll (su σ k i.toNat v') f)) K :=
  Rk.qix (fun hi a ha hk => Go.n0 nv (G_iastore hl.1 hi hd (by rw [ms_su hl.2]; exact kk hi _ (okS_su hok nv.1) a ha hk) (arr_small hl.1)))
theorem Rk.asc {k n : Nat} {i v v' : Int} {f : Sg → Option α} (hok : okS σ) (nv : nm v v') (j : Nat) (hi : i = (j : Int)) (hj : j < n) (hl : LB b k (0, n)) (hd : decode M.2.1 pc = .ok (.iastore, 1)) (kk : ∀ τ, okS τ → Rk κ M E (pc + 1) L st (ms b μ τ) (f τ) K) : Rk κ M E pc L (vi v :: vi i :: vr k :: st) (ms b μ σ) (ll (su σ k j v') f) K := by
  subst hi
  exact fun a ha hk => Go.n0 nv (G_iastore hl.1 ⟨by omega, by omega⟩ hd (by rw [ms_su hl.2, Int.toNat_natCast]; exact kk _ (okS_su hok nv.1) a ha hk) (arr_small hl.1))
/-! tables that were there before -/
theorem G_gsL {idx : Nat} (hlk : Cond.fieldLink M.1.cls idx "ThreeDots$Judge" "LEAST" "[I" ∈ gw) (hd : decode M.2.1 pc = .ok (.getstatic idx, 3)) (kk : Go κ M E (pc + 3) L (vr 1200 :: st) σ) : Go κ M E pc L st σ := by
  intro p e s m args below meth c H locs ls F hE hS hW hL
  exact va_gets F.1 F.2.1 hE.2.2.2.2.2.2.1.1 hS F.2.2.2.1 (F.2.2.2.2.1 _ hlk) (fun _ h => h) hd (kk p e s m args below meth c H locs ls F hE hS hW hL)
theorem G_gsM {idx : Nat} (hlk : Cond.fieldLink M.1.cls idx "ThreeDots$Judge" "MOST" "[I" ∈ gw) (hd : decode M.2.1 pc = .ok (.getstatic idx, 3)) (kk : Go κ M E (pc + 3) L (vr 1201 :: st) σ) : Go κ M E pc L st σ := by
  intro p e s m args below meth c H locs ls F hE hS hW hL
  exact va_gets F.1 F.2.1 hE.2.2.2.2.2.2.2.1.1 hS F.2.2.2.1 (F.2.2.2.2.1 _ hlk) (fun _ h => h) hd (kk p e s m args below meth c H locs ls F hE hS hW hL)
theorem T_ld {t N : Nat} {f : Nat → Value} {i : Int} {p : Program} {e : Env} {s : State} {m : MethodId} {args : Array Value} {below : List Frame} {meth : Method} {c : Code} {H : Heap} {locs : List Loc} {ls : Array Slot} {R : Room} {A : Nat → Prop} {l : Launch} {cells slots : Nat} {Q : State → Prop} {rest : List Value} {cc : ByteArray} (hN : N < 2147483648) (hx : p.tables.exec = Jvm.exec) (hb : c.code = cc) (hT : va_T .int t N f A s s.heap) (hS : va_S A s.heap H locs) (hi : 0 ≤ i ∧ i < (N : Int)) (hd : decode cc pc = .ok (.iaload, 1))
    (kk : W p l e R s m args below meth c H locs cells slots Q (F0 m (pc + 1) ls (f i.toNat :: rest))) : W p l e R s m args below meth c H locs cells slots Q (F0 m pc ls (.int (Int32.ofInt i) :: .ref t :: rest)) := by
  obtain ⟨cell, h1, h2, h3, h4, h5, h6, h7⟩ := hT.kept hS.2.1
  obtain ⟨g1, g2⟩ := ix_in hi hN
  have hlt : i.toNat < N := by omega
  exact W.iald (v := f i.toNat) hx hb h1 h2 h3 (fun z => g1 (by
    rcases z with z | z
    · exact Or.inl z
    · exact Or.inr (Nat.le_trans h4 z))) (by rw [g2]; exact h6 _ hlt) rfl rfl hd kk
theorem Rk.lo {i : Int} (hd : decode M.2.1 pc = .ok (.iaload, 1)) (kk : (0 ≤ i ∧ i < 5) → Rk κ M E (pc + 1) L (vi (mLo i.toNat) :: st) σ o K) : Rk κ M E pc L (vi i :: vr 1200 :: st) σ (ix i 5 o) K :=
  Rk.qix (fun hi a ha hk => by
    intro p e s m args below meth c H locs ls F hE hS hW hL
    exact T_ld (N := 5) (by decide) F.1 F.2.1 hE.2.2.2.2.2.2.1.2 hS hi hd (kk hi a ha hk p e s m args below meth c H locs ls F hE hS hW hL))
theorem Rk.hi {i : Int} (hd : decode M.2.1 pc = .ok (.iaload, 1)) (kk : (0 ≤ i ∧ i < 5) → Rk κ M E (pc + 1) L (vi (mHi i.toNat) :: st) σ o K) : Rk κ M E pc L (vi i :: vr 1201 :: st) σ (ix i 5 o) K :=
  Rk.qix (fun hi a ha hk => by
    intro p e s m args below meth c H locs ls F hE hS hW hL
    exact T_ld (N := 5) (by decide) F.1 F.2.1 hE.2.2.2.2.2.2.2.1.2 hS hi hd (kk hi a ha hk p e s m args below meth c H locs ls F hE hS hW hL))
theorem mLoR (j : Nat) : inR (mLo j) := by unfold mLo; split <;> exact ⟨by decide, by decide⟩
theorem mHiR (j : Nat) : inR (mHi j) := by unfold mHi; split <;> exact ⟨by decide, by decide⟩
/-! System.arraycopy, both from 0 on -/
def ckC (own : String) (idx : Nat) : Prop := Cond.methodLink own idx arraycopyName ∈ gw ∧ Cond.native arraycopyName ∈ gw ∧ Cond.static arraycopyName ∈ gw ∧ Cond.initialized "java/lang/System" ∈ gw
theorem G_copy {d idx k0 k1 n0 n1 : Nat} {Q : Option AV → Sg → Prop} {n : Int} (hck : ckC M.1.cls idx) (hl0 : lay k0 = (0, n0)) (hl1 : lay k1 = (0, n1)) (h0 : 0 ≤ n) (h1 : n ≤ (n0 : Int)) (h2 : n ≤ (n1 : Int)) (hd1 : 1 ≤ d) (hW8 : (st.map catA).sum ≤ 8) (hd : decode M.2.1 pc = .ok (.invokestatic idx, 3))
    (kk : Go κ M (eM κ d Q) (pc + 3) L st (cpy σ k0 k1 n)) : Go κ M (eM κ d Q) pc L (vi n :: vi 0 :: vr k1 :: vi 0 :: vr k0 :: st) σ := by
  intro p e s m args below meth c H locs ls F hE hS hW hL
  have hk0 := lay_lt hl0 (by show 0 < 9; decide)
  have hk1 := lay_lt hl1 (by show 0 < 9; decide)
  have hc0 := hW.arr hk0 hl0
  have hc1 := hW.arr hk1 hl1
  have s0 := arr_small hl0
  have s1 := arr_small hl1
  have hr : inR n := by unfold inR; omega
  have en : (Int32.ofInt n).toInt = n := i32_t hr
  have ec : (Int32.ofInt n).toNatClampNeg = n.toNat := by show (Int32.ofInt n).toInt.toNat = _; rw [en]
  have hn0 : ¬ Int32.ofInt n < 0 := by rw [← i32_0, i32_lt hr (by decide)]; omega
  have hA := hE.2.2.1 k1 hk1
  intro T hT X
  obtain ⟨-, q0, hq0, cm0, hkk0⟩ := (hE.1.2 0 _ rfl).1 n0 (fun j => .int (Int32.ofInt (σ k0 j)))
  obtain ⟨-, q1, hq1, cm1, hkk1⟩ := (hE.1.2 0 _ rfl).1 n1 (fun j => .int (Int32.ofInt (σ k1 j)))
  obtain ⟨vm', X', step⟩ := X.arraycopy F.1 F.2.2.2.1 (F.2.2.2.2.1 _ hck.1) (F.2.2.2.2.1 _ hck.2.1) (F.2.2.2.2.1 _ hck.2.2.1) (F.2.2.2.2.1 _ hck.2.2.2) (src := kAd κ k0) (dst := kAd κ k1) (cs := arrV (κ.2.2.1 0) n0 (fun j => .int (Int32.ofInt (σ k0 j)))) (cd := arrV (κ.2.2.1 0) n1 (fun j => .int (Int32.ofInt (σ k1 j)))) (srcPos := 0) (destPos := 0) (n := Int32.ofInt n) (by rw [hT]; exact hc0) (by rw [hT]; exact hc1)
    (fun _ h => by cases h) (fun _ h => by cases h) (fun h => by cases h) (fun h => by cases h) hq0 hq1 hkk0 hkk1 (by simp [refKind]) (by decide) (by decide) hn0
    (by rw [en]; show ¬ (0 : Int) + n > _; rw [arrV_size]; omega)
    (by rw [en]; show ¬ (0 : Int) + n > _; rw [arrV_size]; omega)
    (fun vm₁ _ i hi => by
      rw [ec] at hi
      have e : (arrV (κ.2.2.1 0) n0 (fun j => Value.int (Int32.ofInt (σ k0 j)))).slots.getD ((0 : Int32).toNatClampNeg + i) .null = .int (Int32.ofInt (σ k0 i)) := by
        show (arrV (κ.2.2.1 0) n0 (fun j => Value.int (Int32.ofInt (σ k0 j)))).slots.getD (0 + i) _ = _
        rw [Nat.zero_add, Array.getD_eq_getD_getElem?, arrV_read _ _ (by omega)]
        rfl
      refine ⟨?_, ?_⟩
      · rw [e]; rfl
      · rw [e]; exact trivial)
    (g := F0 m pc ls ((vi n :: vi 0 :: vr k1 :: vi 0 :: vr k0 :: st).map (cv κ))) rfl (by rw [F.2.2.1, hL.1]) (rest := st.map (cv κ)) rfl (by rw [F.2.1]; exact hd) (by show 1 ≤ d; exact hd1) (by
      show 2 * 0 + _ + _ ≤ 40 * d
      rw [cat_sum]
      have : nativeFrameWords "java/lang/System" "arraycopy" 5 + 11 ≤ 30 := by decide +kernel
      omega)
  have e1 : copied (arrV (κ.2.2.1 0) n0 (fun j => Value.int (Int32.ofInt (σ k0 j)))) (arrV (κ.2.2.1 0) n1 (fun j => Value.int (Int32.ofInt (σ k1 j)))) 0 0 (Int32.ofInt n) = arrV (κ.2.2.1 0) n1 (fun j => .int (va_cpy (fun j => Int32.ofInt (σ k0 j)) (fun j => Int32.ofInt (σ k1 j)) 0 0 (Int32.ofInt n).toNatClampNeg j)) := va_copied (fun z => .int z) (κ.2.2.1 0) (κ.2.2.1 0) (sp := 0) (fun j => Int32.ofInt (σ k0 j)) (fun j => Int32.ofInt (σ k1 j)) (by rw [ec]; omega)
  rw [e1] at X' step
  have hl : kAd κ k1 < H.size := (Array.getElem?_eq_some_iff.mp hc1).1
  generalize hcell : arrV (κ.2.2.1 0) n1 (fun j => Value.int (va_cpy (fun j => Int32.ofInt (σ k0 j)) (fun j => Int32.ofInt (σ k1 j)) 0 0 (Int32.ofInt n).toNatClampNeg j)) = cell at X' step
  have hheap : ((T.setVm vm').setCell (kAd κ k1) cell).heap = H.setIfInBounds (kAd κ k1) cell := by rw [← hT]; rfl
  have oq : ∀ q : Nat, q ≠ kAd κ k1 → (H.setIfInBounds (kAd κ k1) cell)[q]? = H[q]? := fun q hq => by simp [Array.getElem?_setIfInBounds, Ne.symm hq]
  have hW1 : Wd κ (cpy σ k0 k1 n) (H.setIfInBounds (kAd κ k1) cell) := by
    refine hW.other hE.2.1 hk1 oq (fun i hi => ?_) ?_
    · funext j; unfold cpy; rw [if_neg (fun h => hi h.1)]
    · unfold cellAt
      rw [hl1]
      show (H.setIfInBounds (kAd κ k1) cell)[kAd κ k1]? = some _
      rw [Array.getElem?_setIfInBounds_self_of_lt hl, ← hcell]
      congr 2
      funext j
      unfold va_cpy cpy
      rw [ec]
      by_cases hj : (j : Int) < n
      · rw [if_pos ⟨Nat.zero_le j, by omega⟩, if_pos ⟨rfl, hj⟩]
        show Value.int (Int32.ofInt (σ k0 (0 + (j - 0)))) = _
        rw [Nat.zero_add, Nat.sub_zero]
      · rw [if_neg (fun h => hj (by omega)), if_neg (fun h => hj h.2)]
  obtain ⟨t, a1, b1⟩ := kk p e s m args below meth c _ _ ls F hE ⟨by simp; exact hS.1, fun q g1 g2 => by
      rw [oq q (fun e => g2 (by rw [e]; exact hA))]
      exact hS.2.1 q g1 g2, fun q hq => by
      rcases List.mem_append.mp hq with h | h
      · exact hS.2.2 q h
      · obtain ⟨z, -, hz⟩ := List.mem_map.mp h
        rw [← hz]
        exact hA⟩ hW1 hL _ hheap X'
  exact ⟨t, step t a1, b1⟩
theorem ms_cpy {k0 k1 : Nat} {n : Int} (h0 : decide (172 ≤ k0) = b) (h1 : decide (172 ≤ k1) = b) : cpy (ms b μ σ) k0 k1 n = ms b μ (cpy σ k0 k1 n) := by
  funext k j
  unfold cpy ms
  dsimp only
  by_cases h : k = k1 ∧ (j : Int) < n
  · rw [if_pos h, if_pos h, if_pos h0, if_pos (by rw [h.1]; exact h1)]
  · rw [if_neg h, if_neg h]
def cx {α : Type} (n n0 n1 : Int) (o : Option α) : Option α := if 0 ≤ n ∧ n ≤ n0 ∧ n ≤ n1 then o else none
theorem Rk.cp {d idx k0 k1 n0 n1 : Nat} {Q : Option AV → Sg → Prop} {n n' : Int} {f : Sg → Option α} (hok : okS σ) (nn : nm n n') (hck : ckC M.1.cls idx) (hl0 : LB b k0 (0, n0)) (hl1 : LB b k1 (0, n1)) (hd1 : 1 ≤ d) (hW8 : (st.map catA).sum ≤ 8) (hd : decode M.2.1 pc = .ok (.invokestatic idx, 3))
    (kk : ∀ τ, okS τ → Rk κ M (eM κ d Q) (pc + 3) L st (ms b μ τ) (f τ) K) : Rk κ M (eM κ d Q) pc L (vi n :: vi 0 :: vr k1 :: vi 0 :: vr k0 :: st) (ms b μ σ) (cx n' (n0 : Int) (n1 : Int) (ll (cpy σ k0 k1 n') f)) K :=
  Rk.chk (fun h a ha hk => Go.n0 nn (G_copy hck hl0.1 hl1.1 h.1 h.2.1 h.2.2 hd1 hW8 hd (by rw [ms_cpy hl0.2 hl1.2]; exact kk _ (okS_cpy hok) a ha hk)))
/-! contracts of the pure runs, and calls -/
def CtI (κ : Kx) (M : Md) (d : Nat) (as : List AV) (b : Bool) (μ σ : Sg) (o : Option (Int × Sg)) : Prop := ∀ r τ, o = some (r, τ) → Con κ M d as (ms b μ σ) (fun a u => a = some (vi r) ∧ u = ms b μ τ ∧ inR r ∧ okS τ)
def CtZ (κ : Kx) (M : Md) (d : Nat) (as : List AV) (b : Bool) (μ σ : Sg) (o : Option (Int × Sg)) : Prop := ∀ r τ, o = some (r, τ) → Con κ M d as (ms b μ σ) (fun a u => a = some (vi r) ∧ u = ms b μ τ ∧ inZ r ∧ okS τ)
def CtV (κ : Kx) (M : Md) (d : Nat) (as : List AV) (b : Bool) (μ σ : Sg) (o : Option Sg) : Prop := ∀ τ, o = some τ → Con κ M d as (ms b μ σ) (fun a u => a = none ∧ u = ms b μ τ ∧ okS τ)
def CtRI (κ : Kx) (M : Md) (d : Nat) (as : List AV) (b : Bool) (μ σ : Sg) (o : Option Int) : Prop := ∀ r, o = some r → Con κ M d as (ms b μ σ) (fun a u => a = some (vi r) ∧ u = ms b μ σ ∧ inR r)
def CtRZ (κ : Kx) (M : Md) (d : Nat) (as : List AV) (b : Bool) (μ σ : Sg) (o : Option Int) : Prop := ∀ r, o = some r → Con κ M d as (ms b μ σ) (fun a u => a = some (vi r) ∧ u = ms b μ σ ∧ inZ r)
def CtRJ (κ : Kx) (M : Md) (d : Nat) (as : List AV) (b : Bool) (μ σ : Sg) (o : Option Int) : Prop := ∀ r, o = some r → Con κ M d as (ms b μ σ) (fun a u => a = some (vl r) ∧ u = ms b μ σ ∧ inJ r)
def CtRS (κ : Kx) (M : Md) (d : Nat) (as : List AV) (b : Bool) (μ σ : Sg) (o : Option Nat) : Prop := ∀ r, o = some r → Con κ M d as (ms b μ σ) (fun a u => a = some (vr (1000 + 2 * r)) ∧ u = ms b μ σ ∧ r < nStr)
/-- a call of any kind: what Go.callS and Go.callV give -/
def Cl (κ : Kx) (M : Md) (pc : Nat) (L : List (Option AV)) (st : List AV) (σ : Sg) (rest : List AV) (M' : Md) (d d' : Nat) (as : List AV) : Prop := ∀ (Q Q' : Option AV → Sg → Prop), Con κ M' d' as σ Q' → (∀ r σ', Q' r σ' → Go κ M (eM κ d Q) (pc + 3) L (r.toList ++ rest) σ') → Go κ M (eM κ d Q) pc L st σ
theorem Cl.s {M' : Md} {d d' n idx : Nat} (as rest : List AV) (hd : decode M.2.1 pc = .ok (.invokestatic idx, 3)) (ck : ckB M.1.cls idx M' n ∧ Cond.static M'.1 ∈ gw) (hst : st = as.reverse ++ rest) (hn : as.length = n) (hW8 : (rest.map catA).sum ≤ 8) (hdd : d' + 1 ≤ d) : Cl κ M pc L st σ rest M' d d' as := fun Q Q' hc kk => Go.callS as rest hd ck hst hn hW8 hdd hc kk
theorem Cl.v {M' : Md} {d d' n idx c k : Nat} {C : String} (as rest : List AV) (hd : decode M.2.1 pc = .ok (.invokevirtual idx, 3)) (ck : ckB M.1.cls idx M' n ∧ Cond.instanceMethod M'.1 ∈ gw ∧ Cond.selects C M'.1 M'.1 ∈ gw) (hl : LB b k (1, c)) (hC : (vwCl[c]?).map (fun q => q.1) = some C) (hst : st = as.reverse ++ vr k :: rest) (hn : as.length = n) (hW8 : (rest.map catA).sum ≤ 8) (hdd : d' + 1 ≤ d) : Cl κ M pc L st σ rest M' d d' (vr k :: as) := fun Q Q' hc kk => Go.callV as rest hd ck hl.1 hC hst hn hW8 hdd hc kk
theorem Rk.cI {M' : Md} {d d' : Nat} {as rest : List AV} {q : Option (Int × Sg)} {f : Int → Sg → Option α} {Q : Option AV → Sg → Prop} (h : Cl κ M pc L st (ms b μ σ) rest M' d d' as) (hc : CtI κ M' d' as b μ σ q) (kk : ∀ r τ, inR r → okS τ → Rk κ M (eM κ d Q) (pc + 3) L (vi r :: rest) (ms b μ τ) (f r τ) K) : Rk κ M (eM κ d Q) pc L st (ms b μ σ) (b2 q f) K := by
  intro a ha hk
  obtain ⟨⟨r, τ⟩, h1, h2⟩ := Option.bind_eq_some_iff.mp ha
  exact h Q _ (hc r τ h1) (fun r' σ' ⟨e1, e2, e3, e4⟩ => by subst e1; subst e2; exact kk r τ e3 e4 a h2 hk)
theorem Rk.cZ {M' : Md} {d d' : Nat} {as rest : List AV} {q : Option (Int × Sg)} {f : Int → Sg → Option α} {Q : Option AV → Sg → Prop} (h : Cl κ M pc L st (ms b μ σ) rest M' d d' as) (hc : CtZ κ M' d' as b μ σ q) (kk : ∀ r τ, inZ r → okS τ → Rk κ M (eM κ d Q) (pc + 3) L (vi r :: rest) (ms b μ τ) (f r τ) K) : Rk κ M (eM κ d Q) pc L st (ms b μ σ) (b2 q f) K := by
  intro a ha hk
  obtain ⟨⟨r, τ⟩, h1, h2⟩ := Option.bind_eq_some_iff.mp ha
  exact h Q _ (hc r τ h1) (fun r' σ' ⟨e1, e2, e3, e4⟩ => by subst e1; subst e2; exact kk r τ e3 e4 a h2 hk)
theorem Rk.cV {M' : Md} {d d' : Nat} {as rest : List AV} {q : Option Sg} {f : Sg → Option α} {Q : Option AV → Sg → Prop} (h : Cl κ M pc L st (ms b μ σ) rest M' d d' as) (hc : CtV κ M' d' as b μ σ q) (kk : ∀ τ, okS τ → Rk κ M (eM κ d Q) (pc + 3) L rest (ms b μ τ) (f τ) K) : Rk κ M (eM κ d Q) pc L st (ms b μ σ) (b1 q f) K := by
  intro a ha hk
  obtain ⟨τ, h1, h2⟩ := Option.bind_eq_some_iff.mp ha
  exact h Q _ (hc τ h1) (fun r' σ' ⟨e1, e2, e3⟩ => by subst e1; subst e2; exact kk τ e3 a h2 hk)
theorem Rk.cRI {M' : Md} {d d' : Nat} {as rest : List AV} {q : Option Int} {f : Int → Option α} {Q : Option AV → Sg → Prop} (h : Cl κ M pc L st (ms b μ σ) rest M' d d' as) (hc : CtRI κ M' d' as b μ σ q) (kk : ∀ r, inR r → Rk κ M (eM κ d Q) (pc + 3) L (vi r :: rest) (ms b μ σ) (f r) K) : Rk κ M (eM κ d Q) pc L st (ms b μ σ) (b1 q f) K := by
  intro a ha hk
  obtain ⟨r, h1, h2⟩ := Option.bind_eq_some_iff.mp ha
  exact h Q _ (hc r h1) (fun r' σ' ⟨e1, e2, e3⟩ => by subst e1; subst e2; exact kk r e3 a h2 hk)
theorem Rk.cRZ {M' : Md} {d d' : Nat} {as rest : List AV} {q : Option Int} {f : Int → Option α} {Q : Option AV → Sg → Prop} (h : Cl κ M pc L st (ms b μ σ) rest M' d d' as) (hc : CtRZ κ M' d' as b μ σ q) (kk : ∀ r, inZ r → Rk κ M (eM κ d Q) (pc + 3) L (vi r :: rest) (ms b μ σ) (f r) K) : Rk κ M (eM κ d Q) pc L st (ms b μ σ) (b1 q f) K := by
  intro a ha hk
  obtain ⟨r, h1, h2⟩ := Option.bind_eq_some_iff.mp ha
  exact h Q _ (hc r h1) (fun r' σ' ⟨e1, e2, e3⟩ => by subst e1; subst e2; exact kk r e3 a h2 hk)
theorem Rk.cRJ {M' : Md} {d d' : Nat} {as rest : List AV} {q : Option Int} {f : Int → Option α} {Q : Option AV → Sg → Prop} (h : Cl κ M pc L st (ms b μ σ) rest M' d d' as) (hc : CtRJ κ M' d' as b μ σ q) (kk : ∀ r, inJ r → Rk κ M (eM κ d Q) (pc + 3) L (vl r :: rest) (ms b μ σ) (f r) K) : Rk κ M (eM κ d Q) pc L st (ms b μ σ) (b1 q f) K := by
  intro a ha hk
  obtain ⟨r, h1, h2⟩ := Option.bind_eq_some_iff.mp ha
  exact h Q _ (hc r h1) (fun r' σ' ⟨e1, e2, e3⟩ => by subst e1; subst e2; exact kk r e3 a h2 hk)
theorem Rk.cRS {M' : Md} {d d' : Nat} {as rest : List AV} {q : Option Nat} {f : Nat → Option α} {Q : Option AV → Sg → Prop} (h : Cl κ M pc L st (ms b μ σ) rest M' d d' as) (hc : CtRS κ M' d' as b μ σ q) (kk : ∀ r, r < nStr → Rk κ M (eM κ d Q) (pc + 3) L (vr (1000 + 2 * r) :: rest) (ms b μ σ) (f r) K) : Rk κ M (eM κ d Q) pc L st (ms b μ σ) (b1 q f) K := by
  intro a ha hk
  obtain ⟨r, h1, h2⟩ := Option.bind_eq_some_iff.mp ha
  exact h Q _ (hc r h1) (fun r' σ' ⟨e1, e2, e3⟩ => by subst e1; subst e2; exact kk r e3 a h2 hk)
/-! the ends -/
theorem q_I {r v : Int} {τ s : Sg} (h : (v, s) = (r, τ)) (h1 : inR v) (h2 : okS s) : some (vi v) = some (vi r) ∧ ms b μ s = ms b μ τ ∧ inR r ∧ okS τ := by cases h; exact ⟨rfl, rfl, h1, h2⟩
theorem q_Z {r v : Int} {τ s : Sg} (h : (v, s) = (r, τ)) (h1 : inZ v) (h2 : okS s) : some (vi v) = some (vi r) ∧ ms b μ s = ms b μ τ ∧ inZ r ∧ okS τ := by cases h; exact ⟨rfl, rfl, h1, h2⟩
theorem q_V {τ s : Sg} (h : s = τ) (h2 : okS s) : (none : Option AV) = none ∧ ms b μ s = ms b μ τ ∧ okS τ := by cases h; exact ⟨rfl, rfl, h2⟩
theorem q_RI {r v : Int} (h : v = r) (h1 : inR v) : some (vi v) = some (vi r) ∧ ms b μ σ = ms b μ σ ∧ inR r := by cases h; exact ⟨rfl, rfl, h1⟩
theorem q_RZ {r v : Int} (h : v = r) (h1 : inZ v) : some (vi v) = some (vi r) ∧ ms b μ σ = ms b μ σ ∧ inZ r := by cases h; exact ⟨rfl, rfl, h1⟩
theorem q_RJ {r v : Int} (h : v = r) (h1 : inJ v) : some (vl v) = some (vl r) ∧ ms b μ σ = ms b μ σ ∧ inJ r := by cases h; exact ⟨rfl, rfl, h1⟩
theorem q_RS {r v : Nat} (h : v = r) (h1 : v < nStr) : some (vr (1000 + 2 * v)) = some (vr (1000 + 2 * r)) ∧ ms b μ σ = ms b μ σ ∧ r < nStr := by cases h; exact ⟨rfl, rfl, h1⟩
theorem Rk.sel {A B : Nat} {q : Option Int} {st' : List AV} {o0 o1 : Option α} (h : Rk κ M E pc L st σ q (fun x => inZ x → Go κ M E (if x = 0 then B else A) L st' σ)) (k0 : Rk κ M E B L st' σ o0 K) (k1 : Rk κ M E A L st' σ o1 K) : Rk κ M E pc L st σ (b1 q (fun t => if t = 0 then o0 else o1)) K := by
  intro a ha hk
  obtain ⟨x, h1, h2⟩ := Option.bind_eq_some_iff.mp ha
  refine h x h1 (fun hz => ?_)
  rcases hz with rfl | rfl
  · exact k0 a h2 hk
  · exact k1 a h2 hk
/-! cells by their kind -/
theorem LBp {i : Nat} (h : i < 6) : LB false (62 + 1 + 13 * i) (1, 6) := by
  have h1 : ∀ i, i < 6 → LB false (62 + 1 + 13 * i) (1, 6) := by unfold LB; decide +kernel
  exact h1 i h
theorem lay2 : ∀ k, (lay k).2 < 4000 := by
  intro k
  by_cases h : k < 189
  · have h2 : ∀ k, k < 189 → (lay k).2 < 4000 := by decide +kernel
    exact h2 k h
  · unfold lay
    rw [List.getD_eq_getElem?_getD, List.getElem?_eq_none (by rw [show layT.length = 189 from by decide +kernel]; omega)]
    decide
theorem LBt {t : Nat} (h : LB false t (1, 6)) (j : Nat) (hj : 4 ≤ j ∧ j ≤ 12) : LB false (t + j) (0, 60) := by
  have h1 : ∀ t, t < 172 → lay t = (1, 6) → ∀ j, j < 13 → 4 ≤ j → LB false (t + j) (0, 60) := by
    unfold LB; decide +kernel
  have h2 : t < 172 := by have := h.2; simp at this; exact this
  exact h1 t h2 h.1 j (by omega) hj.1
theorem LBt2 {t : Nat} (h : LB false t (1, 6)) (j : Nat) (hj : 1 ≤ j ∧ j ≤ 3) : LB false (t + j) (0, 2) := by
  have h1 : ∀ t, t < 172 → lay t = (1, 6) → ∀ j, j < 4 → 1 ≤ j → LB false (t + j) (0, 2) := by
    unfold LB; decide +kernel
  have h2 : t < 172 := by have := h.2; simp at this; exact this
  exact h1 t h2 h.1 j (by omega) hj.1
def ln (k : Nat) : Nat := (lay k).2
theorem lnR (k : Nat) : inR ((ln k : Nat) : Int) := by have := lay2 k; unfold ln inR; omega
theorem LBs {t : Nat} (h : LB false t (1, 5)) (j : Nat) (hj : 1 ≤ j ∧ j ≤ 2) : LB false (t + j) (0, ln (t + j)) := by
  have h1 : ∀ t, t < 172 → lay t = (1, 5) → ∀ j, j < 3 → 1 ≤ j → LB false (t + j) (0, ln (t + j)) := by
    unfold LB; decide +kernel
  have h2 : t < 172 := by have := h.2; simp at this; exact this
  exact h1 t h2 h.1 j (by omega) hj.1
theorem LBw {t : Nat} (h : LB false t (1, 7)) : LB false (t + 1) (1, 6) ∧ LB false (t + 14) (0, 600) ∧ LB false (t + 15) (2, 4) ∧ LB false (t + 28) (0, 10) ∧ LB false (t + 29) (0, 8) ∧ ∀ i, i < 4 → LB false (t + 16 + 3 * i) (1, 5) := by
  have h2 : t < 172 := by have := h.2; simp at this; exact this
  have h3 : ∀ t, t < 172 → lay t = (1, 7) → (t = 1 ∨ t = 31) := by decide +kernel
  unfold LB
  rcases h3 t h2 h.1 with rfl | rfl
  · exact ⟨by decide +kernel, by decide +kernel, by decide +kernel, by decide +kernel, by decide +kernel, by decide +kernel⟩
  · exact ⟨by decide +kernel, by decide +kernel, by decide +kernel, by decide +kernel, by decide +kernel, by decide +kernel⟩
end GoMem
