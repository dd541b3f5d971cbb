/-! the making of the world: rows of references, calls, ends -/
section Make3
variable {κ : Kx} {M : Md} {R : Room} {Z : List Frame → Array Value → State → State → Prop} {cn sl pc n : Nat} {L : List (Option AV)} {st : List AV} {P : Nat → List Nat}
/-- a row of references: q its kind (2 sheets, 3 talks) -/
def QK (q : Nat) (C : String) (c t : Nat) : Prop := (q = 2 ∧ C = "ThreeDots$Sheet" ∧ c = 5 ∧ t = 1) ∨ (q = 3 ∧ C = "ThreeDots$Talk" ∧ c = 6 ∧ t = 2)
theorem cellR.q {V : Nat → Nat → AV} {H : Heap} {q k len c t : Nat} {C : String} (hq : QK q C c t) (hl : lay k = (q, len)) : cellR κ V H k ↔ H[kAd κ k]? = some (arrV (κ.2.2.1 t) len (fun j => cv κ (V k j))) := by
  unfold cellR
  rw [hl]
  rcases hq with ⟨rfl, -, -, rfl⟩ | ⟨rfl, -, -, rfl⟩ <;> exact Iff.rfl
theorem deV_q {q k j len c t : Nat} {C : String} (hq : QK q C c t) (hl : lay k = (q, len)) : deV k j = .inr (.inr none) := by
  unfold deV
  rw [hl]
  rcases hq with ⟨rfl, -⟩ | ⟨rfl, -⟩ <;> rfl
theorem QK.K {s : State} {q c t : Nat} {C : String} (hq : QK q C c t) (hE : Ev κ s) : ArrOfT s (κ.2.2.1 t) (.object C) ∧ va_RA s (κ.2.2.1 t) (.object C) := by
  rcases hq with ⟨-, rfl, -, rfl⟩ | ⟨-, rfl, -, rfl⟩
  · exact hE.1.2 1 _ rfl
  · exact hE.1.2 2 _ rfl
theorem QK.AO {s : State} {args : Array Value} {q c t : Nat} {C : String} (hq : QK q C c t) (hE : Ex κ s) : (Cond.arrayOver (.object C)).before args s = true := by
  rcases hq with ⟨-, rfl, -⟩ | ⟨-, rfl, -⟩
  · exact va_AO.use hE.2.1
  · exact va_AO.use hE.2.2
theorem Gc.anew {q c t len idx : Nat} {C : String} {x : Int} (ds : List Nat) (hq : QK q C c t) (hn : n < NN) (hl : lay n = (q, len)) (hx : x = (len : Int)) (hds : ∀ j, j < len → ds.contains j = true) (hlk : Cond.classLink M.1.cls idx C ∈ gw) {cn' sl' : Nat} (ec : cn + 1 = cn') (es : sl + len = sl') (hc : cn' ≤ R.cells) (hs : sl' ≤ R.slots) (hd : decode M.2.1 pc = .ok (.anewarray idx, 3)) (kk : Gc κ M R Z cn' sl' (pc + 3) L (vr n :: st) (n + 1) (pu P n ds)) : Gc κ M R Z cn sl pc L (vi x :: st) n P := by
  intro p e s m args below meth cd H locs ls hA F hI hE hS hW hL
  subst hx; subst ec; subst es
  have h4 : len < 4000 := by have := lay2 n; rw [hl] at this; exact this
  have hz := hW.sz hA hn
  have hN : (Int32.ofInt (len : Int)).toNatClampNeg = len := by
    show (Int32.ofInt (len : Int)).toInt.toNat = _
    rw [i32_t ⟨by omega, by omega⟩]; omega
  have h0 : ¬ Int32.ofInt (len : Int) < 0 := by rw [← i32_0, i32_lt ⟨by omega, by omega⟩ (by decide)]; omega
  refine W.anew F.1 F.2.1 F.2.2.2.1 (F.2.2.2.2.1 _ hlk) (hq.AO hE) rfl hd (n := Int32.ofInt (len : Int)) rfl h0 (by rw [hN]; omega) hc (by rw [hN]; exact hs) fun cA kAr comp f1 f2 f3 f4 => ?_
  rw [hN]
  generalize hH1 : H.push ({ cls := cA, slots := Array.replicate len .null, vm := .none } : Cell) = H1
  have z1 : H1.size = H.size + 1 := by rw [← hH1, Array.size_push]
  have e1 : H1[H.size]? = some (arrV cA len (fun _ => .null)) := by rw [← hH1, Array.getElem?_push_size, ← arrV_new]
  have o1 : ∀ q : Nat, q < H.size → H1[q]? = H[q]? := fun q hq => by rw [← hH1, Array.getElem?_push, if_neg (Nat.ne_of_lt hq)]
  obtain ⟨-, kA2, comp2, g1, g2, g3, g4⟩ := hq.K hE.1
  have hcA : cA = κ.2.2.1 t := Option.some.inj (f1.symm.trans g4)
  subst hcA
  rw [hz] at e1 ⊢
  refine kk p e s m args below meth cd H1 locs ls hA F hI hE ⟨Nat.le_trans hS.1 (by omega), fun q h1 h2 => (o1 q (by have := hS.1; omega)).trans (hS.2.1 q h1 h2), hS.2.2⟩ (hW.grow hA hn (by omega) o1 ((cellR.q hq hl).mpr ?_)) hL
  rw [e1]
  congr 1
  refine arrV_to (fun j hj => ?_)
  unfold Rp
  rw [pu_at, if_pos (hds j hj), deV_q hq hl]; rfl
theorem Gc.aast {q c t k len i v : Nat} {C : String} {i' : Int} {ds : List Nat} (hq : QK q C c t) (hl : lay k = (q, len)) (hk : k < n) (hn : n ≤ NN) (hi : i < len) (ei : i' = (i : Int)) (hj : ds.contains i = false) (hx : fiV k i = vr v) (hv : v < n) (hlv : lay v = (1, c)) (hd : decode M.2.1 pc = .ok (.aastore, 1)) (kk : Gc κ M R Z cn sl (pc + 1) L st n (pu P k ds)) : Gc κ M R Z cn sl pc L (vr v :: vi i' :: vr k :: st) n (pu P k (i :: ds)) := by
  intro p e s m args below meth cd H locs ls hA F hI hE hS hW hL
  subst ei
  have h4 : len < 4000 := by have := lay2 k; rw [hl] at this; exact this
  obtain ⟨h1, h2⟩ := ix_in (i := (i : Int)) (n := len) ⟨by omega, by omega⟩ (by omega)
  have hcell := (cellR.q hq hl).mp (hW.2 k hk)
  obtain ⟨-, kA2, comp, k1, k2, k3, -⟩ := hq.K hE.1
  have hcC : ∃ (T : u_T) (N : Nat), vwCl[c]? = some (C, T, N) := by
    rcases hq with ⟨-, rfl, rfl, -⟩ | ⟨-, rfl, rfl, -⟩ <;> exact ⟨_, _, rfl⟩
  obtain ⟨T, N, hcc⟩ := hcC
  obtain ⟨cellV, g1, g2, g3, -⟩ := hW.obj hv hlv hcc
  have hcls := (hE.1.1.1 c _ hcc).2
  have hcomp : comp = κ.2.1.1 c := Option.some.inj (k3.symm.trans hcls.1)
  subst hcomp
  obtain ⟨kC, hkC, -⟩ := id hcls.2
  refine W.aast (j := Int32.ofInt (i : Int)) F.1 F.2.1 hcell (fun q h => by cases h) (fun h => by cases h) k1 k2 rfl hkC ⟨fun z => h1 (Or.inl z), by rw [arrV_size, h2]; omega⟩ g1 (fun q h => by rw [g3] at h; cases h) (by rw [g2]; exact hkC) (by rw [g2]; exact va_assign hcls) rfl rfl hd fun H' e1 e2 e3 => ?_
  refine kk p e s m args below meth cd H' _ ls hA F hI hE (hS.put e2 e3 (hE.1.2.2.1 k (by omega))) (hW.put hA hk hn e2 e3 ((cellR.q hq hl).mpr ?_)) hL
  rw [e1, arrV_store, h2]
  congr 2
  funext a
  unfold updV
  rw [Rp_pop hj]
  by_cases h : a = i
  · rw [if_pos (by omega), if_pos h, hx]; rfl
  · rw [if_neg (by omega), if_neg h]
theorem Gc.obj {k idx : Nat} (hlk : Cond.methodLink M.1.cls idx Lib.objectInit ∈ gw ∧ Cond.instanceMethod Lib.objectInit ∈ gw ∧ Cond.code Lib.objectInit ⟨#[0xb1]⟩ 1 none ∈ gw) (hR : 1 ≤ R.frames ∧ 40 ≤ R.locals) (hW8 : (st.map catA).sum ≤ 8) (hd : decode M.2.1 pc = .ok (.invokespecial idx, 3)) (kk : Gc κ M R Z cn sl (pc + 3) L st n P) : Gc κ M R Z cn sl pc L (vr k :: st) n P := by
  intro p e s m args below meth cd H locs ls hA F hI hE hS hW hL
  refine W.objInit F.1 F.2.1 F.2.2.2.1 (F.2.2.2.2.1 _ hlk.1) (F.2.2.2.2.1 _ hlk.2.1) (F.2.2.2.2.1 _ hlk.2.2) rfl (by rw [F.2.2.1]; exact hL.1) rfl hd hR.1 ?_ (kk p e s m args below meth cd H locs ls hA F hI hE hS hW hL)
  show 2 * 0 + _ + 12 ≤ _
  rw [cat_sum]; have := hR.2; omega
/-! contracts of the making methods -/
def rmX (d mc ms : Nat) : Room := { frames := d, cells := mc, slots := ms, locals := 40 * d }
def QcX (κ : Kx) (n : Nat) (P : Nat → List Nat) : Array Value → State → Outcome → State → Prop := fun _ st o t => (o = .returned none ∧ Wp κ n P t.heap) ∧ va_F (kA κ) st t
def zX (κ : Kx) (n : Nat) (P : Nat → List Nat) (mc ms : Nat) : List Frame → Array Value → State → State → Prop := fun below args s => MQ below (QcX κ n P) args s mc ms (kA κ)
def ConX (κ : Kx) (M : Md) (d mc ms : Nat) (as : List AV) (n : Nat) (P : Nat → List Nat) (n' : Nat) (P' : Nat → List Nat) : Prop :=
  Met κ.1 M.1 (wsM M) (rmX d mc ms) (va_Pc (as.map (cv κ)) (fun U => Ex κ U ∧ Wp κ n P U.heap)) (QcX κ n' P') mc ms (kA κ)
theorem conX_blind {as : List AV} : FrameBlind (va_Pc (as.map (cv κ)) (fun U => Ex κ U ∧ Wp κ n P U.heap)) := fun a U g mk h => ⟨h.1, h.2.1.calling, h.2.2⟩
theorem Gc.ret (hr : M.2.2.2 = none) (hd : decode M.2.1 pc = .ok (.return_, 1)) : Gc κ M R (zX κ n P cn sl) cn sl pc L [] n P := by
  intro p e s m args below meth cd H locs ls hA F hI hE hS hW hL
  have hlocks : meth.locks = false := F.2.2.2.2.2.2
  exact W.vret (Qc := QcX κ n P) F.1 F.2.1 (by rw [F.2.2.2.2.2.1, hr]) (fun t ht hw => ⟨⟨rfl, by rw [ht]; exact hW⟩, hS.F ht⟩) hS.2.2 hd
theorem conX_of {d mc ms n' : Nat} {P' : Nat → List Nat} {as : List AV} (hy : plainName M.1.cls = true) (hA : ad κ) (hn : eW as ≤ M.2.2.1) (r : Nat) (h : Gc κ M (rmX d mc ms) (zX κ n' P' mc ms) 0 0 0 (eL as ++ List.replicate r none) [] n P) : ConX κ M d mc ms as n P n' P' := by
  refine Met.ofW (cc := M.2.1) (maxL := M.2.2.1) (ret := M.2.2.2) hy rfl ?_
  intro p e s m args below meth c s₁ B hml hv
  obtain ⟨rfl, hE, hWd⟩ := hv
  have hx := B.exec
  have hb := B.bytes
  have hr := B.returns
  have hts := atoms_spec (ws := wsM M) B.pre
  have hown : s.vm.findClass M.1.cls = some m.cls := findClass_of_methodNamed B.named
  have hlocks := B.notSynchronized
  have hin : meth.name = M.1.name := (name_of_methodNamed B.named B.method).1
  have hl := lv_entry (as.map (cv κ)) (n := M.2.2.1) (by rw [eW_len]; exact hn)
  rw [lg_entry_eq]
  generalize (lg_sl (as.map (cv κ)) ++ List.replicate (M.2.2.1 - (lg_sl (as.map (cv κ))).length) Slot.unset).toArray = ls at hl ⊢
  refine h p e s m _ below meth c s.heap [] ls hA ⟨hx, hb, hml, hown, fun w hw => hts w (List.mem_cons_of_mem _ hw), hr, hlocks⟩ (fun z => hin.trans z) hE va_S.rf hWd ⟨hl.1, hl.2.1, fun i v hi => ?_⟩
  have hi2 : (eL as)[i]? = some (some v) := by
    rcases Nat.lt_or_ge i (eL as).length with h1 | h1
    · rw [List.getElem?_append_left h1] at hi; exact hi
    · rw [List.getElem?_append_right h1, List.getElem?_replicate] at hi
      split at hi <;> cases hi
  have h3 := eL_args (κ := κ) (j := 0) hi2
  exact hl.2.2 _ h3
def ckI (own : String) (idx : Nat) (M' : Md) (nP : Nat) : Prop := ckB own idx M' nP ∧ M'.1.name = "<init>" ∧ Cond.instanceMethod M'.1 ∈ gw ∧ M'.2.2.2 = none
theorem Gc.call {M' : Md} {d' mc ms nP idx n' k : Nat} {P' : Nat → List Nat} (as rest : List AV) (ck : ckI M.1.cls idx M' nP) (hst : st = as.reverse ++ vr k :: rest) (hn : as.length = nP) (hW8 : (rest.map catA).sum ≤ 8) (hR : d' + 1 ≤ R.frames ∧ 40 * (d' + 1) ≤ R.locals) {cn' sl' : Nat} (ec : cn + mc = cn') (es : sl + ms = sl') (hc1 : cn' ≤ R.cells) (hs1 : sl' ≤ R.slots) (hd : decode M.2.1 pc = .ok (.invokespecial idx, 3)) (hc : ConX κ M' d' mc ms (vr k :: as) n P n' P') (kk : Gc κ M R Z cn' sl' (pc + 3) L rest n' P') : Gc κ M R Z cn sl pc L st n P := by
  intro p e s m args below meth cd H locs ls hA F hI hE hS hW hL
  subst ec; subst es
  obtain ⟨⟨h1, h2, h3, h4, h5, h6, h7⟩, hnm, him, hret⟩ := ck
  obtain ⟨y, bytes, mL, rt⟩ := M'
  have hret : rt = none := hret
  subst hret
  have cb : CallB R s args M.1.cls idx y bytes mL none (wsM (y, bytes, mL, none)) (rmX d' mc ms) mc ms nP := by
    refine callB_of nP F.2.2.2.2.1 (gwM (M' := (y, bytes, mL, none)) h3) rfl rfl rfl (F.2.2.2.2.1 _ h2) (F.2.2.2.2.1 _ h1) ⟨h4, h5, h6⟩ ⟨hR.1, ?_⟩
    show 8 + (mL + 11) + 40 * d' ≤ _
    have h7 : mL ≤ 21 := h7
    have := hR.2
    omega
  have hr := va_runI (As := as.map (cv κ)) (n := nP) (b := kAd κ k) (rest := rest.map (cv κ)) (g := F0 m pc ls (st.map (cv κ))) (below := below) (meth := meth) (locs := locs) (cells := cn) (slots := sl) (e := e) (H := H) ⟨F.1, F.2.1, F.2.2.1, F.2.2.2.1, F.2.2.2.2.1⟩ hc ⟨cb, hnm, F.2.2.2.2.1 _ him⟩ ⟨conX_blind (κ := κ) (as := vr k :: as), fun U hU hWm => ⟨rfl, hE.later hS hU hWm, by rw [hU]; exact hW⟩⟩ rfl (by rw [List.length_map]; exact hn) hL.1 (by rw [hst, List.map_append, List.map_reverse]; rfl) (by show 2 * 0 + _ ≤ 8; rw [cat_sum]; omega) hd ⟨hc1, hs1⟩
  intro T hT X
  obtain ⟨v, st₀, t, T', L', h0, X', hL', e1, e2, ⟨⟨hv, hWd⟩, hz, hk⟩, stp⟩ := hr T hT X
  cases hv
  rw [h0] at hz hk
  have hk2 := kk p e s m args below meth cd T'.heap (locs ++ L') ls hA F hI hE ⟨Nat.le_trans hS.1 (by rw [e1]; exact hz), fun q h1 h2 => by rw [e1, hk q (Nat.lt_of_lt_of_le h1 hS.1) h2]; exact hS.2.1 q h1 h2, fun q hq => by
      rcases List.mem_append.mp hq with h | h
      · exact hS.2.2 q h
      · exact hL' q h⟩ (by rw [e1]; exact hWd) hL
  obtain ⟨t2, a1, b1⟩ := hk2 T' rfl X'
  exact ⟨t2, stp t2 a1, b1⟩
end Make3
