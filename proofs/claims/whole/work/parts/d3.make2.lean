/-! the making of the world: objects, fields, stores, calls -/
section Make2
variable {κ : Kx} {M : Md} {R : Room} {Z : List Frame → Array Value → State → State → Prop} {cn sl pc n : Nat} {L : List (Option AV)} {st : List AV} {P : Nat → List Nat}
/-- a field of descriptor d begins with v -/
def dvOK (d : String) (v : AV) : Bool := (decide (v = vi 0) && (d == "I" || d == "Z")) || (decide (v = .inr (.inr none)) && (match parseFieldDescriptor d with | some (.object _) => true | some (.array _) => true | _ => false))
theorem dvOK_v {d : String} {v : AV} {ty : FieldType} (h : dvOK d v = true) (hp : parseFieldDescriptor d = some ty) : defaultValue ty = cv κ v := by
  unfold dvOK at h
  simp only [Bool.or_eq_true, Bool.and_eq_true, beq_iff_eq, decide_eq_true_eq] at h
  rcases h with ⟨h1, h2 | h2⟩ | ⟨h1, h2⟩
  · subst h1; subst h2
    rw [show parseFieldDescriptor "I" = some .int from by decide +kernel] at hp
    cases hp; rfl
  · subst h1; subst h2
    rw [show parseFieldDescriptor "Z" = some .boolean from by decide +kernel] at hp
    cases hp; rfl
  · subst h1
    rw [hp] at h2
    cases ty <;> first | rfl | (exact absurd h2 (by decide))
/-- entry idx of own's pool is class c, which can be made -/
def NL (own : String) (idx c : Nat) : Prop := ∃ (C : String) (T : u_T) (N : Nat), vwCl[c]? = some (C, T, N) ∧ Cond.classLink own idx C ∈ gw ∧ Cond.instantiable C N ∈ gw ∧ Cond.initialized C ∈ gw
theorem Gc.new {idx c N : Nat} (ds : List Nat) (hn : n < NN) (hl : lay n = (1, c)) (hC : CL c) (hN : NL M.1.cls idx c) (eN : (vwCl.getD c ("", TX0, 0)).2.2 = N) (hdv : ∀ j, j < N → dvOK ((vwCl.getD c ("", TX0, 0)).2.1 j).2.2.1 (deV n j) = true) (hds : ∀ j, j < N → ds.contains j = false → deV n j = fiV n j) {cn' sl' : Nat} (ec : cn + 1 = cn') (es : sl + N = sl') (hc : cn' ≤ R.cells) (hs : sl' ≤ R.slots) (hd : decode M.2.1 pc = .ok (.new idx, 3)) (kk : Gc κ M R Z cn' sl' (pc + 3) L (vr n :: st) (n + 1) (pu P n ds)) : Gc κ M R Z cn sl pc L st n P := by
  intro p e s m args below meth cd H locs ls hA F hI hE hS hW hL
  obtain ⟨C, T, N', hc1, hlk, hin, hini⟩ := hN
  obtain ⟨C', T', N'', ty, hc', hin', hty, hnm⟩ := hC
  cases hc1.symm.trans hc'
  rw [vwD hc1] at eN hdv
  have eN : N' = N := eN
  subst eN; subst ec; subst es
  have hz := hW.sz hA hn
  have hKn := hE.1.1.1 c _ hc1
  refine W.newcK F.1 F.2.1 F.2.2.2.1 (F.2.2.2.2.1 _ hlk) (F.2.2.2.2.1 _ hin) (F.2.2.2.2.1 _ hini) rfl hd hc hs hKn.2.1 hz fun H1 kC hkC e1 z1 o1 => ?_
  refine kk p e s m args below meth cd H1 locs ls hA F hI hE ⟨Nat.le_trans hS.1 (by omega), fun q h1 h2 => (o1 q (by have := hS.1; omega)).trans (hS.2.1 q h1 h2), hS.2.2⟩ (hW.grow hA hn (by omega) (fun q hq => o1 q (by omega)) ?_) hL
  unfold cellR
  rw [hl]
  show t_OB _ _ (vwCl.getD c ("", TX0, 0)).2.2 _ _ _
  rw [vwD hc1]
  refine (u_born ty F.2.2.2.2.1 hin' hKn hkC e1 hty).to (fun j hj => ?_)
  rw [dvOK_v (κ := κ) (hdv j hj) (hty j hj)]
  unfold Rp
  rw [pu_at]
  by_cases h : ds.contains j = true
  · rw [if_pos h]
  · rw [if_neg h, hds j hj (by simpa using h)]
theorem Wp.obj {H : Heap} {k c : Nat} {C : String} {T : u_T} {N : Nat} (hW : Wp κ n P H) (hk : k < n) (hl : lay k = (1, c)) (hc : vwCl[c]? = some (C, T, N)) : t_OB (kAd κ k) (κ.2.1.1 c) N (κ.2.1.2 c) H (fun j => cv κ (Rp P k j)) := by
  have h := hW.2 k hk
  unfold cellR at h
  rw [hl] at h
  have h2 : t_OB (kAd κ k) (κ.2.1.1 c) (vwCl.getD c ("", TX0, 0)).2.2 (κ.2.1.2 c) H (fun j => cv κ (Rp P k j)) := h
  rw [vwD hc] at h2
  exact h2
theorem Gc.get {idx c j k : Nat} {x : AV} (hf : FL M.1.cls idx c j) (hC : CL c) (hl : lay k = (1, c)) (hk : k < n) (hP : (P k).contains j = false) (hx : fiV k j = x) (hd : decode M.2.1 pc = .ok (.getfield idx, 3)) (kk : Gc κ M R Z cn sl (pc + 3) L (x :: st) n P) : Gc κ M R Z cn sl pc L (vr k :: st) n P := by
  intro p e s m args below meth cd H locs ls hA F hI hE hS hW hL
  obtain ⟨C, T, N, hc, hj, hlink⟩ := hf
  obtain ⟨C', T', N', ty, hc', hin, hty, hnm⟩ := hC
  cases hc.symm.trans hc'
  obtain ⟨cell, q1, q2, q3, q4⟩ := hW.obj hk hl hc
  obtain ⟨hSl, hfc, kC, hkC, hkind⟩ := hE.1.1.1 c _ hc
  obtain ⟨cf, kf, fi, f, hi, hsl⟩ := hSl j hj
  have e1 : Rp P k j = x := by unfold Rp; rw [hP, ← hx]; rfl
  exact W.getf F.1 F.2.1 F.2.2.2.1 (F.2.2.2.2.1 _ hlink) hi (u_facts hfc hkC (u_lays F.2.2.2.2.1 hin hj) hi).1 q1 (by rw [q3]; exact fun h => by cases h) (v := cv κ x) (by rw [hsl, ← e1]; exact q4 j hj) rfl rfl hd (kk p e s m args below meth cd H locs ls hA F hI hE hS hW hL)
theorem Gc.put {idx c j k : Nat} {x : AV} {ds : List Nat} (hf : FL M.1.cls idx c j) (hC : CL c) (hl : lay k = (1, c)) (hk : k < n) (hn : n ≤ NN) (hj : ds.contains j = false) (hx : fiV k j = x) (hnf : ∀ ty, parseFieldDescriptor ((vwCl.getD c ("", TX0, 0)).2.1 j).2.2.1 = some ty → narrow ty (cv κ x) = cv κ x ∧ fits ty (cv κ x) = true) (hfin : ((vwCl.getD c ("", TX0, 0)).2.1 j).2.2.2 = true → M.1.name = "<init>" ∧ ((vwCl.getD c ("", TX0, 0)).2.1 j).1 = M.1.cls) (hd : decode M.2.1 pc = .ok (.putfield idx, 3)) (kk : Gc κ M R Z cn sl (pc + 3) L st n (pu P k ds)) : Gc κ M R Z cn sl pc L (x :: vr k :: st) n (pu P k (j :: ds)) := by
  intro p e s m args below meth cd H locs ls hA F hI hE hS hW hL
  obtain ⟨C, T, N, hc, hjN, hlink⟩ := hf
  obtain ⟨C', T', N', ty, hc', hin, hty, hnm⟩ := hC
  cases hc.symm.trans hc'
  rw [vwD hc] at hfin hnf
  obtain ⟨cell, q1, q2, q3, q4⟩ := hW.obj hk hl hc
  have hap := va_apart (own := C) F.2.2.2.2.1 hin ty hty hnm hE.1.1 hc
  obtain ⟨hSl, hfc, kC, hkC, hkind⟩ := hE.1.1.1 c _ hc
  obtain ⟨cf, kf, fi, f, hi, hsl⟩ := hSl j hjN
  have hlay := F.2.2.2.2.1 _ (hin _ (u_in_lay hjN))
  unfold u_lay at hlay
  have hst := (u_facts hfc hkC (u_lays F.2.2.2.2.1 hin hjN) hi).1
  have hkA : kA κ (kAd κ k) := hE.1.2.2.1 k (by omega)
  have fin : ∀ (H' : Heap), H'[kAd κ k]? = some (cell.setSlot (κ.2.1.2 c j) (cv κ x)) → H'.size = H.size → (∀ q, q ≠ kAd κ k → H'[q]? = H[q]?) → W p κ.1 e R s m args below meth cd H' (locs ++ [⟨kAd κ k, κ.2.1.2 c j⟩]) cn sl (Z below args s) (F0 m (pc + 3) ls (st.map (cv κ))) := by
    intro H' e1 e2 e3
    refine kk p e s m args below meth cd H' _ ls hA F hI hE (hS.put e2 e3 hkA) (hW.put hA hk hn e2 e3 ?_) hL
    unfold cellR
    rw [hl]
    show t_OB _ _ (vwCl.getD c ("", TX0, 0)).2.2 _ _ _
    rw [vwD hc]
    refine t_OB.to (V := updV (fun i => cv κ (Rp (pu P k (j :: ds)) k i)) j (cv κ x)) ⟨_, e1, q2, q3, t_set q4 hap hjN (cv κ x)⟩ (fun i _ => ?_)
    unfold updV
    rw [Rp_pop hj]
    by_cases hij : i = j
    · rw [if_pos hij, if_pos hij, hx]
    · rw [if_neg hij, if_neg hij]
  by_cases hfn : (T j).2.2.2 = true
  · rw [if_pos hfn] at hlay
    obtain ⟨g1, g2⟩ := hfin hfn
    have hcf : m.cls = cf := by
      obtain ⟨_, _, c', _, _, _, -, -, hf', -, -, -, hown2, -⟩ := Cond.laysFinal_spec hlay
      have e1 : c' = cf := by have := hi.symm.trans hf'; simp at this; exact this.1.symm
      have g2 : (T j).1 = M.1.cls := g2
      rw [g2] at hown2
      rw [← e1]; exact Option.some.inj (F.2.2.2.1.symm.trans hown2)
    have h6 := u_fits hfc hkC hkind (Or.inr hlay) hi (hty j hjN) (hnf _ (hty j hjN)).1 (hnf _ (hty j hjN)).2
    refine W.putFinK F.1 F.2.1 F.2.2.2.1 (F.2.2.2.2.1 _ hlink) hi hst hcf (hI g1) (by rw [q2]; exact h6) q1 q3 (by rw [hsl]; exact k2_hasslot (q4 j hjN)) rfl rfl hd fun H' e1 e2 e3 => ?_
    rw [hsl] at e1 ⊢
    exact fin H' e1 e2 e3
  · rw [if_neg hfn] at hlay
    have h6 := u_store hfc hkC hkind hlay hi (hty j hjN) (hnf _ (hty j hjN)).1 (hnf _ (hty j hjN)).2
    refine W.putK F.1 F.2.1 (f := f) ⟨F.2.2.2.1, F.2.2.2.2.1 _ hlink, ⟨_, _, _, hi⟩, hst⟩ (by rw [q2]; exact h6) q1 q3 (by rw [hsl]; exact k2_hasslot (q4 j hjN)) rfl rfl hd fun H' e1 e2 e3 => ?_
    rw [hsl] at e1 ⊢
    exact fin H' e1 e2 e3
theorem nfI {d : String} {v : Int} (h : d = "I") : ∀ ty, parseFieldDescriptor d = some ty → narrow ty (cv κ (vi v)) = cv κ (vi v) ∧ fits ty (cv κ (vi v)) = true := fun ty hp => by
  rw [h, show parseFieldDescriptor "I" = some .int from by decide +kernel] at hp
  cases hp; exact ⟨rfl, rfl⟩
theorem nfZ {d : String} (h : d = "Z") : ∀ ty, parseFieldDescriptor d = some ty → narrow ty (cv κ (vi 0)) = cv κ (vi 0) ∧ fits ty (cv κ (vi 0)) = true := fun ty hp => by
  rw [h, show parseFieldDescriptor "Z" = some .boolean from by decide +kernel] at hp
  cases hp; exact ⟨(by decide +kernel : narrow .boolean (.int (Int32.ofInt 0)) = .int (Int32.ofInt 0)), (by decide +kernel : fits .boolean (.int (Int32.ofInt 0)) = true)⟩
theorem nfR {d : String} {q : Nat} (h : (match parseFieldDescriptor d with | some (.object _) => true | some (.array _) => true | _ => false) = true) : ∀ ty, parseFieldDescriptor d = some ty → narrow ty (cv κ (vr q)) = cv κ (vr q) ∧ fits ty (cv κ (vr q)) = true := fun ty hp => by
  rw [hp] at h
  cases ty <;> first | exact ⟨rfl, rfl⟩ | (exact absurd h (by decide))
theorem Gc.iast {k len i : Nat} {v i' : Int} {ds : List Nat} (hl : lay k = (0, len)) (hk : k < n) (hn : n ≤ NN) (hi : i < len) (ei : i' = (i : Int)) (hj : ds.contains i = false) (hx : s0M k i = v) (hd : decode M.2.1 pc = .ok (.iastore, 1)) (kk : Gc κ M R Z cn sl (pc + 1) L st n (pu P k ds)) : Gc κ M R Z cn sl pc L (vi v :: vi i' :: vr k :: st) n (pu P k (i :: ds)) := by
  intro p e s m args below meth cd H locs ls hA F hI hE hS hW hL
  subst ei
  have h4 : len < 4000 := by have := lay2 k; rw [hl] at this; exact this
  obtain ⟨h1, h2⟩ := ix_in (i := (i : Int)) (n := len) ⟨by omega, by omega⟩ (by omega)
  have hcell : H[kAd κ k]? = some (arrV (κ.2.2.1 0) len (fun j => cv κ (Rp (pu P k (i :: ds)) k j))) := by
    have h := hW.2 k hk
    unfold cellR at h
    rw [hl] at h
    exact h
  refine W.iast (x := Int32.ofInt v) (j := Int32.ofInt i) F.1 F.2.1 hcell ((hE.1.1.2 0 _ rfl).1 len _) (fun q => by cases q) (by rw [arrV_size]; exact h1) rfl rfl hd fun H' e1 e2 e3 => ?_
  refine kk p e s m args below meth cd H' _ ls hA F hI hE (hS.put e2 e3 (hE.1.2.2.1 k (by omega))) (hW.put hA hk hn e2 e3 ?_) hL
  unfold cellR
  rw [hl]
  show H'[_]? = some _
  rw [e1, arrV_store, h2]
  congr 2
  funext a
  unfold updV
  rw [Rp_pop hj]
  by_cases h : a = i
  · rw [if_pos (by omega), if_pos h]
    unfold fiV
    rw [hl]
    show _ = cv κ (vi (s0M k i))
    rw [hx]; rfl
  · rw [if_neg (by omega), if_neg h]
end Make2
