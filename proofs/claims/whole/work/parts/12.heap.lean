section GoHeap
variable {κ : Kx} {M : Md} {E : En} {pc : Nat} {L : List (Option AV)} {st : List AV} {σ : Sg}
/-! fields -/
/-- the class c: its words are among gw, its fields have types, their names differ -/
def CL (c : Nat) : Prop := ∃ (C : String) (T : u_T) (N : Nat) (ty : Nat → FieldType), vwCl[c]? = some (C, T, N) ∧ (∀ w ∈ u_ws C T N, w ∈ gw) ∧ (∀ k, k < N → parseFieldDescriptor (T k).2.2.1 = some (ty k)) ∧ (∀ a, a < N → ∀ b, b < N → a ≠ b → (T a).2.1 ≠ (T b).2.1)
/-- entry idx of own's pool is field j of class c -/
def FL (own : String) (idx c j : Nat) : Prop := ∃ (C : String) (T : u_T) (N : Nat), vwCl[c]? = some (C, T, N) ∧ j < N ∧ Cond.fieldLink own idx (T j).1 (T j).2.1 (T j).2.2.1 ∈ gw
theorem vwD {c : Nat} {C : String} {T : u_T} {N : Nat} (h : vwCl[c]? = some (C, T, N)) : vwCl.getD c ("", TX0, 0) = (C, T, N) := by
  rw [List.getD_eq_getElem?_getD, h]; rfl
theorem Wd.obj {H : Heap} {k c : Nat} {C : String} {T : u_T} {N : Nat} (hW : Wd κ σ H) (hk : k < NN) (hl : lay k = (1, c)) (hc : vwCl[c]? = some (C, T, N)) : t_OB (kAd κ k) (κ.2.1.1 c) N (κ.2.1.2 c) H (fun j => cv κ (sv σ c k j)) := by
  have h := hW k hk
  unfold cellAt at h
  rw [hl] at h
  have h2 : t_OB (kAd κ k) (κ.2.1.1 c) (vwCl.getD c ("", TX0, 0)).2.2 (κ.2.1.2 c) H (fun j => cv κ (sv σ c k j)) := h
  rw [vwD hc] at h2
  exact h2
theorem Wd.arr {H : Heap} {k n : Nat} (hW : Wd κ σ H) (hk : k < NN) (hl : lay k = (0, n)) : H[kAd κ k]? = some (arrV (κ.2.2.1 0) n (fun j => .int (Int32.ofInt (σ k j)))) := by
  have h := hW k hk
  unfold cellAt at h
  rw [hl] at h
  exact h
theorem lay_lt {k : Nat} {q : Nat × Nat} (hl : lay k = q) (h : q.1 < 9) : k < NN := by
  by_cases h1 : k < NN
  · exact h1
  · exfalso
    have h2 : lay k = (9, 0) := by
      unfold lay
      rw [List.getD_eq_getElem?_getD, List.getElem?_eq_none (by rw [show layT.length = NN from by decide +kernel]; omega)]
      rfl
    rw [h2] at hl
    subst hl
    exact absurd h (by decide)
theorem G_getfield {idx c j k : Nat} (hf : FL M.1.cls idx c j) (hC : CL c) (hl : lay k = (1, c)) (hd : decode M.2.1 pc = .ok (.getfield idx, 3)) (kk : Go κ M E (pc + 3) L (sv σ c k j :: st) σ) : Go κ M E pc L (vr k :: st) σ := by
  intro p e s m args below meth cd H locs ls F hE hS hW hL
  obtain ⟨C, T, N, hc, hj, hlink⟩ := hf
  obtain ⟨C', T', N', ty, hc', hin, hty, hnm⟩ := hC
  cases hc.symm.trans hc'
  obtain ⟨cell, q1, q2, q3, q4⟩ := hW.obj (lay_lt hl (by show 1 < 9; decide)) hl hc
  obtain ⟨hSl, hfc, kC, hkC, hkind⟩ := hE.1.1 c _ hc
  obtain ⟨cf, kf, fi, f, hi, hsl⟩ := hSl j hj
  exact W.getf F.1 F.2.1 F.2.2.2.1 (F.2.2.2.2.1 _ hlink) hi (u_facts hfc hkC (u_lays F.2.2.2.2.1 hin hj) hi).1 q1 (by rw [q3]; exact fun h => by cases h) (v := cv κ (sv σ c k j)) (by rw [hsl]; exact q4 j hj) rfl rfl hd (kk p e s m args below meth cd H locs ls F hE hS hW hL)
theorem sv_i {c k j : Nat} (h : sk c k j = none) : sv σ c k j = vi (σ k j) := by unfold sv; rw [h]
theorem sv_r {c k j q : Nat} (h : sk c k j = some (some q)) : sv σ c k j = vr q := by unfold sv; rw [h]
theorem sv_d {c k j : Nat} (h : sk c k j = some none) : sv σ c k j = vr (σ k j).toNat := by unfold sv; rw [h]
theorem G_getI {idx c j k : Nat} (hf : FL M.1.cls idx c j) (hC : CL c) (hs : sk c k j = none) (hl : lay k = (1, c)) (hd : decode M.2.1 pc = .ok (.getfield idx, 3)) (kk : Go κ M E (pc + 3) L (vi (σ k j) :: st) σ) : Go κ M E pc L (vr k :: st) σ := G_getfield hf hC hl hd (by rw [sv_i hs]; exact kk)
theorem G_getR {idx c j k : Nat} (q : Nat) (hf : FL M.1.cls idx c j) (hC : CL c) (hs : sk c k j = some (some q)) (hl : lay k = (1, c)) (hd : decode M.2.1 pc = .ok (.getfield idx, 3)) (kk : Go κ M E (pc + 3) L (vr q :: st) σ) : Go κ M E pc L (vr k :: st) σ := G_getfield hf hC hl hd (by rw [sv_r hs]; exact kk)
theorem G_getD {idx c j k : Nat} (q : Nat) (hf : FL M.1.cls idx c j) (hC : CL c) (hs : sk c k j = some none) (hq : σ k j = (q : Int)) (hl : lay k = (1, c)) (hd : decode M.2.1 pc = .ok (.getfield idx, 3)) (kk : Go κ M E (pc + 3) L (vr q :: st) σ) : Go κ M E pc L (vr k :: st) σ := G_getfield hf hC hl hd (by rw [sv_d hs, hq]; exact kk)
theorem Wd.other {H H1 : Heap} {σ' : Sg} {k : Nat} (hW : Wd κ σ H) (hinj : ∀ i j, i < NN → j < NN → kAd κ i = kAd κ j → i = j) (hk : k < NN) (oq : ∀ q, q ≠ kAd κ k → H1[q]? = H[q]?) (hσ : ∀ i, i ≠ k → σ' i = σ i) (h : cellAt κ σ' H1 k) : Wd κ σ' H1 := by
  intro i hi
  by_cases e : i = k
  · subst e; exact h
  · have h0 := hW i hi
    have ha : H1[kAd κ i]? = H[kAd κ i]? := oq _ (fun z => e (hinj i k hi hk z))
    have hz : ∀ c j, sv σ' c i j = sv σ c i j := fun c j => by unfold sv; rw [hσ i e]
    unfold cellAt at h0 ⊢
    split at h0
    · rw [ha, hσ i e]; exact h0
    · exact (h0.kept ha).to (fun j _ => by rw [hz])
    · rw [ha]; simp only [hz]; exact h0
    · rw [ha]; simp only [hz]; exact h0
    · trivial
theorem su_other {k j : Nat} {v : Int} : ∀ i, i ≠ k → su σ k j v i = σ i := fun i h => by funext j'; exact su_k h
/-- storing a field: an int, or a cell where the memory holds its number -/
theorem G_putfield {idx c j k : Nat} {x : AV} {v : Int} (hf : FL M.1.cls idx c j) (hC : CL c) (hfin : ((vwCl.getD c ("", TX0, 0)).2.1 j).2.2.2 = false) (hx : ∀ σ', σ' k j = v → sv σ' c k j = x) (hs : ∀ σ' σ'' : Sg, ∀ i, i ≠ j → σ' k i = σ'' k i → sv σ' c k i = sv σ'' c k i)
    (hnf : ∀ ty, parseFieldDescriptor ((vwCl.getD c ("", TX0, 0)).2.1 j).2.2.1 = some ty → narrow ty (cv κ x) = cv κ x ∧ fits ty (cv κ x) = true) (hl : lay k = (1, c)) (hd : decode M.2.1 pc = .ok (.putfield idx, 3)) (kk : Go κ M E (pc + 3) L st (su σ k j v)) : Go κ M E pc L (x :: vr k :: st) σ := by
  intro p e s m args below meth cd H locs ls F hE hS hW hL
  obtain ⟨C, T, N, hc, hj, hlink⟩ := hf
  obtain ⟨C', T', N', ty, hc', hin, hty, hnm⟩ := hC
  cases hc.symm.trans hc'
  rw [vwD hc] at hfin hnf
  have hk := lay_lt hl (by show 1 < 9; decide)
  obtain ⟨cell, q1, q2, q3, q4⟩ := hW.obj hk hl hc
  have hap := va_apart (own := C) F.2.2.2.2.1 hin ty hty hnm hE.1 hc
  obtain ⟨hSl, hfc, kC, hkC, hkind⟩ := hE.1.1 c _ hc
  obtain ⟨cf, kf, fi, f, hi, hsl⟩ := hSl j hj
  have hlay := F.2.2.2.2.1 _ (hin _ (u_in_lay hj))
  unfold u_lay at hlay
  rw [if_neg (by rw [hfin]; decide)] at hlay
  have hst := (u_facts hfc hkC (u_lays F.2.2.2.2.1 hin hj) hi).1
  have h6 := u_store hfc hkC hkind hlay hi (hty j hj) (hnf _ (hty j hj)).1 (hnf _ (hty j hj)).2
  refine W.putK F.1 F.2.1 (f := f) ⟨F.2.2.2.1, F.2.2.2.2.1 _ hlink, ⟨_, _, _, hi⟩, hst⟩ (by rw [q2]; exact h6) q1 q3 (by rw [hsl]; exact k2_hasslot (q4 j hj)) rfl rfl hd fun H' e1 e2 e3 => ?_
  rw [hsl] at e1 ⊢
  refine kk p e s m args below meth cd H' _ ls F hE (hS.put e2 e3 (hE.2.2.1 k hk)) (hW.other hE.2.1 hk e3 su_other ?_) hL
  unfold cellAt
  rw [hl]
  show t_OB _ _ (vwCl.getD c ("", TX0, 0)).2.2 _ _ _
  rw [vwD hc]
  refine t_OB.to (V := updV (fun j => cv κ (sv σ c k j)) j (cv κ x)) ⟨_, e1, q2, q3, t_set q4 hap hj (cv κ x)⟩ (fun i _ => ?_)
  unfold updV
  by_cases hij : i = j
  · subst hij; rw [if_pos rfl, hx _ (su_at σ k i v)]
  · rw [if_neg hij, hs (su σ k j v) σ i hij (su_j hij)]
theorem sv_loc {c k j : Nat} : ∀ σ' σ'' : Sg, ∀ i, i ≠ j → σ' k i = σ'' k i → sv σ' c k i = sv σ'' c k i := fun σ' σ'' i _ h => by unfold sv; rw [h]
theorem G_putI {idx c j k : Nat} {v : Int} (hf : FL M.1.cls idx c j) (hC : CL c) (hfin : ((vwCl.getD c ("", TX0, 0)).2.1 j).2.2 = ("I", false)) (hs : sk c k j = none) (hl : lay k = (1, c)) (hd : decode M.2.1 pc = .ok (.putfield idx, 3)) (kk : Go κ M E (pc + 3) L st (su σ k j v)) : Go κ M E pc L (vi v :: vr k :: st) σ := by
  refine G_putfield (v := v) hf hC (by rw [hfin]) (fun σ' h => by rw [sv_i hs, h]) sv_loc (fun ty h => ?_) hl hd kk
  rw [hfin, show parseFieldDescriptor "I" = some .int from by decide +kernel] at h
  cases h
  exact ⟨rfl, rfl⟩
theorem G_putZ {idx c j k : Nat} {v : Int} (hv : v = 0 ∨ v = 1) (hf : FL M.1.cls idx c j) (hC : CL c) (hfin : ((vwCl.getD c ("", TX0, 0)).2.1 j).2.2 = ("Z", false)) (hs : sk c k j = none) (hl : lay k = (1, c)) (hd : decode M.2.1 pc = .ok (.putfield idx, 3)) (kk : Go κ M E (pc + 3) L st (su σ k j v)) : Go κ M E pc L (vi v :: vr k :: st) σ := by
  refine G_putfield (v := v) hf hC (by rw [hfin]) (fun σ' h => by rw [sv_i hs, h]) sv_loc (fun ty h => ?_) hl hd kk
  rw [hfin, show parseFieldDescriptor "Z" = some .boolean from by decide +kernel] at h
  cases h
  rcases hv with rfl | rfl
  · exact ⟨(by decide +kernel : narrow .boolean (.int (Int32.ofInt 0)) = .int (Int32.ofInt 0)), (by decide +kernel : fits .boolean (.int (Int32.ofInt 0)) = true)⟩
  · exact ⟨(by decide +kernel : narrow .boolean (.int (Int32.ofInt 1)) = .int (Int32.ofInt 1)), (by decide +kernel : fits .boolean (.int (Int32.ofInt 1)) = true)⟩
theorem G_putD {idx c j k : Nat} {q : Nat} {C : String} (hf : FL M.1.cls idx c j) (hC : CL c) (hfin : ((vwCl.getD c ("", TX0, 0)).2.1 j).2.2.2 = false) (hty : parseFieldDescriptor ((vwCl.getD c ("", TX0, 0)).2.1 j).2.2.1 = some (.object C)) (hs : sk c k j = some none) (hl : lay k = (1, c)) (hd : decode M.2.1 pc = .ok (.putfield idx, 3)) (kk : Go κ M E (pc + 3) L st (su σ k j (q : Int))) : Go κ M E pc L (vr q :: vr k :: st) σ := by
  refine G_putfield (v := (q : Int)) hf hC hfin (fun σ' h => by rw [sv_d hs, h]; rfl) sv_loc (fun ty h => ?_) hl hd kk
  rw [hty] at h
  cases h
  exact ⟨rfl, rfl⟩
/-! rows of ints -/
theorem ix_in {i : Int} {n : Nat} (h : 0 ≤ i ∧ i < (n : Int)) (hn : n < 2147483648) : ¬ (Int32.ofInt i < 0 ∨ n ≤ (Int32.ofInt i).toNatClampNeg) ∧ (Int32.ofInt i).toNatClampNeg = i.toNat := by
  have hr : -2147483648 ≤ i ∧ i < 2147483648 := by omega
  have e1 : (Int32.ofInt i).toNatClampNeg = i.toNat := by
    show (Int32.ofInt i).toInt.toNat = _
    rw [i32_t hr]
  refine ⟨fun h2 => ?_, e1⟩
  rcases h2 with h2 | h2
  · rw [← i32_0, i32_lt hr (by decide)] at h2; omega
  · rw [e1] at h2; omega
theorem G_iaload {k n : Nat} {i : Int} (hl : lay k = (0, n)) (hi : 0 ≤ i ∧ i < (n : Int)) (hd : decode M.2.1 pc = .ok (.iaload, 1)) (kk : Go κ M E (pc + 1) L (vi (σ k i.toNat) :: st) σ) (hn : n < 2147483648 := by decide) : Go κ M E pc L (vi i :: vr k :: st) σ := by
  intro p e s m args below meth cd H locs ls F hE hS hW hL
  have hk := lay_lt hl (by show 0 < 9; decide)
  obtain ⟨h1, h2⟩ := ix_in hi hn
  exact W.iald (v := .int (Int32.ofInt (σ k i.toNat))) F.1 F.2.1 (hW.arr hk hl) ((hE.1.2 0 _ rfl).1 n _) (fun q => by cases q) (by rw [arrV_size]; exact h1) (by rw [h2, arrV_read _ _ (by omega)]) rfl rfl hd (kk p e s m args below meth cd H locs ls F hE hS hW hL)
theorem G_iastore {k n : Nat} {i v : Int} (hl : lay k = (0, n)) (hi : 0 ≤ i ∧ i < (n : Int)) (hd : decode M.2.1 pc = .ok (.iastore, 1)) (kk : Go κ M E (pc + 1) L st (su σ k i.toNat v)) (hn : n < 2147483648 := by decide) : Go κ M E pc L (vi v :: vi i :: vr k :: st) σ := by
  intro p e s m args below meth cd H locs ls F hE hS hW hL
  have hk := lay_lt hl (by show 0 < 9; decide)
  obtain ⟨h1, h2⟩ := ix_in hi hn
  refine W.iast (x := Int32.ofInt v) (j := Int32.ofInt i) F.1 F.2.1 (hW.arr hk hl) ((hE.1.2 0 _ rfl).1 n _) (fun q => by cases q) (by rw [arrV_size]; exact h1) rfl rfl hd fun H' e1 e2 e3 => ?_
  refine kk p e s m args below meth cd H' _ ls F hE (hS.put e2 e3 (hE.2.2.1 k hk)) (hW.other hE.2.1 hk e3 su_other ?_) hL
  unfold cellAt
  rw [hl]
  show H'[_]? = some _
  rw [e1, arrV_store, h2]
  have e4 : updV (fun j => Value.int (Int32.ofInt (σ k j))) i.toNat (.int (Int32.ofInt v)) = fun j => .int (Int32.ofInt (su σ k i.toNat v k j)) := by
    funext j
    unfold updV su
    by_cases h : j = i.toNat
    · simp [h]
    · simp [h]
  rw [e4]
theorem G_arrlen {k n : Nat} (hl : lay k = (0, n)) (hd : decode M.2.1 pc = .ok (.arraylength, 1)) (kk : Go κ M E (pc + 1) L (vi (n : Int) :: st) σ) : Go κ M E pc L (vr k :: st) σ := by
  intro p e s m args below meth cd H locs ls F hE hS hW hL
  have hk := lay_lt hl (by show 0 < 9; decide)
  refine W.alen (n := Int32.ofInt (n : Int)) F.1 F.2.1 (hW.arr hk hl) ((hE.1.2 0 _ rfl).1 n _) ?_ rfl rfl hd (kk p e s m args below meth cd H locs ls F hE hS hW hL)
  rw [arrV_size]
  exact (Int32.ofInt_eq_ofNat (n := n)).symm
theorem G_aaload2 {k n : Nat} {i : Int} (q : Nat) (hl : lay k = (2, n)) (hi : 0 ≤ i ∧ i < (n : Int)) (hq : sk 12 k i.toNat = some (some q)) (hd : decode M.2.1 pc = .ok (.aaload, 1)) (kk : Go κ M E (pc + 1) L (vr q :: st) σ) (hn : n < 2147483648 := by decide) : Go κ M E pc L (vi i :: vr k :: st) σ := by
  intro p e s m args below meth cd H locs ls F hE hS hW hL
  have hk := lay_lt hl (by show 2 < 9; decide)
  obtain ⟨h1, h2⟩ := ix_in hi hn
  have h := hW k hk
  unfold cellAt at h
  rw [hl] at h
  exact W.aald (v := .ref (kAd κ q)) (ty := .object "ThreeDots$Sheet") F.1 F.2.1 h ((hE.1.2 1 _ rfl).1 n _) rfl (fun q => by cases q) (by rw [arrV_size]; exact h1) (by rw [h2, arrV_read _ _ (by omega), sv_r hq]; rfl) rfl rfl hd (kk p e s m args below meth cd H locs ls F hE hS hW hL)
theorem G_aaload3 {k n : Nat} {i : Int} (q : Nat) (hl : lay k = (3, n)) (hi : 0 ≤ i ∧ i < (n : Int)) (hq : sk 13 k i.toNat = some (some q)) (hd : decode M.2.1 pc = .ok (.aaload, 1)) (kk : Go κ M E (pc + 1) L (vr q :: st) σ) (hn : n < 2147483648 := by decide) : Go κ M E pc L (vi i :: vr k :: st) σ := by
  intro p e s m args below meth cd H locs ls F hE hS hW hL
  have hk := lay_lt hl (by show 3 < 9; decide)
  obtain ⟨h1, h2⟩ := ix_in hi hn
  have h := hW k hk
  unfold cellAt at h
  rw [hl] at h
  exact W.aald (v := .ref (kAd κ q)) (ty := .object "ThreeDots$Talk") F.1 F.2.1 h ((hE.1.2 2 _ rfl).1 n _) rfl (fun q => by cases q) (by rw [arrV_size]; exact h1) (by rw [h2, arrV_read _ _ (by omega), sv_r hq]; rfl) rfl rfl hd (kk p e s m args below meth cd H locs ls F hE hS hW hL)
/-! returns -/
theorem G_ireturn {d : Nat} {Q : Option AV → Sg → Prop} {v : Int} (hr : M.2.2.2 = some .int) (hd : decode M.2.1 pc = .ok (.ireturn, 1)) (hq : Q (some (vi v)) σ) : Go κ M (eM κ d Q) pc L [vi v] σ := by
  intro p e s m args below meth cd H locs ls F hE hS hW hL
  have hlocks : meth.locks = false := F.2.2.2.2.2.2
  exact W.iret (Qc := Qc κ Q) (v := Int32.ofInt v) F.1 F.2.1 (by rw [F.2.2.2.2.2.1, hr]) (fun t ht hw => ⟨⟨some (vi v), σ, rfl, hq, by rw [ht]; exact hW⟩, hS.F ht⟩) hS.2.2 hd
theorem G_zreturn {d : Nat} {Q : Option AV → Sg → Prop} {v : Int} {ty : FieldType} (hr : M.2.2.2 = some ty) (hn : narrow ty (.int (Int32.ofInt v)) = .int (Int32.ofInt v)) (hd : decode M.2.1 pc = .ok (.ireturn, 1)) (hq : Q (some (vi v)) σ) : Go κ M (eM κ d Q) pc L [vi v] σ := by
  intro p e s m args below meth cd H locs ls F hE hS hW hL
  have hlocks : meth.locks = false := F.2.2.2.2.2.2
  exact W.zret (Qc := Qc κ Q) (v := Int32.ofInt v) F.1 F.2.1 (by rw [F.2.2.2.2.2.1, hr]) hn (fun t ht hw => ⟨⟨some (vi v), σ, rfl, hq, by rw [ht]; exact hW⟩, hS.F ht⟩) hS.2.2 hd
theorem nz {v : Int} (h : v = 0 ∨ v = 1) : narrow .boolean (.int (Int32.ofInt v)) = .int (Int32.ofInt v) := by rcases h with rfl | rfl <;> decide +kernel
theorem G_return {d : Nat} {Q : Option AV → Sg → Prop} (hr : M.2.2.2 = none) (hd : decode M.2.1 pc = .ok (.return_, 1)) (hq : Q none σ) : Go κ M (eM κ d Q) pc L [] σ := by
  intro p e s m args below meth cd H locs ls F hE hS hW hL
  have hlocks : meth.locks = false := F.2.2.2.2.2.2
  exact W.vret (Qc := Qc κ Q) F.1 F.2.1 (by rw [F.2.2.2.2.2.1, hr]) (fun t ht hw => ⟨⟨none, σ, rfl, hq, by rw [ht]; exact hW⟩, hS.F ht⟩) hS.2.2 hd
theorem G_lreturn {d : Nat} {Q : Option AV → Sg → Prop} {v : Int} (hr : M.2.2.2 = some .long) (hd : decode M.2.1 pc = .ok (.lreturn, 1)) (hq : Q (some (vl v)) σ) : Go κ M (eM κ d Q) pc L [vl v] σ := by
  intro p e s m args below meth cd H locs ls F hE hS hW hL
  have hlocks : meth.locks = false := F.2.2.2.2.2.2
  exact W.lret (Qc := Qc κ Q) (v := Int64.ofInt v) F.1 F.2.1 (by rw [F.2.2.2.2.2.1, hr]) (fun t ht hw => ⟨⟨some (vl v), σ, rfl, hq, by rw [ht]; exact hW⟩, hS.F ht⟩) hS.2.2 hd
theorem G_areturn {d : Nat} {Q : Option AV → Sg → Prop} {v : Nat} {n : String} (hr : M.2.2.2 = some (.object n)) (hd : decode M.2.1 pc = .ok (.areturn, 1)) (hq : Q (some (vr v)) σ) : Go κ M (eM κ d Q) pc L [vr v] σ := by
  intro p e s m args below meth cd H locs ls F hE hS hW hL
  have hlocks : meth.locks = false := F.2.2.2.2.2.2
  exact W.aret (Qc := Qc κ Q) (v := .ref (kAd κ v)) (rt := .object n) F.1 F.2.1 (by rw [F.2.2.2.2.2.1, hr]) (Or.inl ⟨n, rfl⟩) (Or.inr ⟨_, rfl⟩) (fun t ht hw => ⟨⟨some (vr v), σ, rfl, hq, by rw [ht]; exact hW⟩, hS.F ht⟩) hS.2.2 hd
end GoHeap
