section GoCall
variable {κ : Kx} {M : Md} {E : En} {pc : Nat} {L : List (Option AV)} {st : List AV} {σ : Sg}
/-! what was there before stays through a call -/
theorem Ev.later {s U : State} {H : Heap} {locs : List Loc} (h : Ev κ s) (hS : va_S (kA κ) s.heap H locs) (hU : U.heap = H) (hW : s.WarmedH U.vm) : Ev κ U := by
  obtain ⟨hK, hi, hA, hs, hr, hc, ⟨hl1, hl2⟩, ⟨hm1, hm2⟩, ⟨hx, hxA⟩, w, hw, hwz⟩ := h
  have hq : ∀ a : Nat, a < s.heap.size → ¬ kA κ a → U.heap[a]? = s.heap[a]? := by rw [hU]; exact hS.2.1
  refine ⟨va_K.moved hW.alike hK, hi, hA, vk_S.moved hW.alike (hs.kept hq), fun i q hq => vk_R.warm hW (hr i q hq), va_Z.moved hW.alike (hc.kept hq), ⟨va_Z.moved hW.alike (hl1.kept hq), va_T.moved hW.alike (hl2.kept hq)⟩, ⟨va_Z.moved hW.alike (hm1.kept hq), va_T.moved hW.alike (hm2.kept hq)⟩, ⟨?_, hxA⟩, w, hw, va_Z.moved hW.alike (hwz.kept hq)⟩
  refine va_X.moved hW.alike (hx.kept ?_)
  obtain ⟨scr, h1, -⟩ := id hx
  exact hq _ (Array.getElem?_eq_some_iff.mp h1).1 hxA
theorem Ev.calling {U : State} {g : JFrame} {mk : MethodId} {a : Array Value} (h : Ev κ U) : Ev κ (U.calling g mk a) := by
  obtain ⟨hK, hi, hA, hs, hr, hc, ⟨hl1, hl2⟩, ⟨hm1, hm2⟩, ⟨hx, hxA⟩, w, hw, hwz⟩ := h
  exact ⟨va_K.moved (u := U) (U := U.calling g mk a) (Vm.Alike.refl U.vm) hK, hi, hA, vk_S.moved (u := U) (U := U.calling g mk a) (Vm.Alike.refl U.vm) hs, fun i q hq => (hr i q hq).same rfl, va_Z.moved (u := U) (U := U.calling g mk a) (Vm.Alike.refl U.vm) hc, ⟨va_Z.moved (u := U) (U := U.calling g mk a) (Vm.Alike.refl U.vm) hl1, va_T.moved (u := U) (U := U.calling g mk a) (Vm.Alike.refl U.vm) hl2⟩, ⟨va_Z.moved (u := U) (U := U.calling g mk a) (Vm.Alike.refl U.vm) hm1, va_T.moved (u := U) (U := U.calling g mk a) (Vm.Alike.refl U.vm) hm2⟩, ⟨va_X.moved (u := U) (U := U.calling g mk a) (Vm.Alike.refl U.vm) hx, hxA⟩, w, hw, va_Z.moved (u := U) (U := U.calling g mk a) (Vm.Alike.refl U.vm) hwz⟩
theorem con_blind {as : List AV} : FrameBlind (va_Pc (as.map (cv κ)) (fun U => Ev κ U ∧ Wd κ σ U.heap)) := fun a U g mk h => ⟨h.1, h.2.1.calling, h.2.2⟩
/-! a contract out of a walk from 0 -/
def eL : List AV → List (Option AV)
  | [] => []
  | .inr (.inl n) :: as => some (.inr (.inl n)) :: none :: eL as
  | v :: as => some v :: eL as
theorem eL_args : ∀ {as : List AV} {i j : Nat} {v : AV}, (eL as)[i]? = some (some v) → (i + j, cv κ v) ∈ lv_args j (as.map (cv κ))
  | [], i, j, v, h => by simp [eL] at h
  | .inr (.inl n) :: as, 0, j, v, h => by
    simp only [eL, List.getElem?_cons_zero, Option.some.injEq] at h
    subst h
    simp only [List.map_cons, lv_args, Nat.zero_add]
    exact List.mem_cons_self
  | .inr (.inl n) :: as, 1, j, v, h => by
    simp only [eL, List.getElem?_cons_succ, List.getElem?_cons_zero] at h
    cases h
  | .inr (.inl n) :: as, i + 2, j, v, h => by
    simp only [eL, List.getElem?_cons_succ] at h
    simp only [List.map_cons, lv_args]
    refine List.mem_cons_of_mem _ ?_
    rw [if_pos (show (cv κ (.inr (.inl n))).category = 2 from rfl)]
    have h2 := eL_args (j := j + 2) h
    rw [show i + 2 + j = i + (j + 2) by omega]
    exact h2
  | .inl n :: as, 0, j, v, h => by
    simp only [eL, List.getElem?_cons_zero, Option.some.injEq] at h
    subst h
    simp only [List.map_cons, lv_args, Nat.zero_add]
    exact List.mem_cons_self
  | .inl n :: as, i + 1, j, v, h => by
    simp only [eL, List.getElem?_cons_succ] at h
    simp only [List.map_cons, lv_args]
    refine List.mem_cons_of_mem _ ?_
    rw [if_neg (show ¬ (cv κ (.inl n)).category = 2 from by simp [cv, Value.category])]
    rw [show i + 1 + j = i + (j + 1) by omega]
    exact eL_args (j := j + 1) h
  | .inr (.inr q) :: as, 0, j, v, h => by
    simp only [eL, List.getElem?_cons_zero, Option.some.injEq] at h
    subst h
    simp only [List.map_cons, lv_args, Nat.zero_add]
    exact List.mem_cons_self
  | .inr (.inr q) :: as, i + 1, j, v, h => by
    simp only [eL, List.getElem?_cons_succ] at h
    simp only [List.map_cons, lv_args]
    refine List.mem_cons_of_mem _ ?_
    rw [if_neg (show ¬ (cv κ (.inr (.inr q))).category = 2 from by cases q <;> simp [cv, Value.category])]
    rw [show i + 1 + j = i + (j + 1) by omega]
    exact eL_args (j := j + 1) h
def eW : List AV → Nat
  | [] => 0
  | .inr (.inl _) :: as => 2 + eW as
  | _ :: as => 1 + eW as
theorem eW_len : ∀ {as : List AV}, (lg_sl (as.map (cv κ))).length = eW as
  | [] => rfl
  | .inr (.inl n) :: as => by
    have h := eW_len (as := as)
    simp only [lg_sl, List.map_cons, List.flatMap_cons, List.length_append, eW] at h ⊢
    rw [h, if_pos (show (cv κ (.inr (.inl n))).category = 2 from rfl)]; rfl
  | .inl n :: as => by
    have h := eW_len (as := as)
    simp only [lg_sl, List.map_cons, List.flatMap_cons, List.length_append, eW] at h ⊢
    rw [h, if_neg (show ¬ (cv κ (.inl n)).category = 2 from by simp [cv, Value.category])]; rfl
  | .inr (.inr q) :: as => by
    have h := eW_len (as := as)
    simp only [lg_sl, List.map_cons, List.flatMap_cons, List.length_append, eW] at h ⊢
    rw [h, if_neg (show ¬ (cv κ (.inr (.inr q))).category = 2 from by cases q <;> simp [cv, Value.category])]; rfl
theorem con_of {d : Nat} {as : List AV} {Q : Option AV → Sg → Prop} (hy : plainName M.1.cls = true) (hn : eW as ≤ M.2.2.1) (n : Nat) (h : Go κ M (eM κ d Q) 0 (eL as ++ List.replicate n none) [] σ) : Con κ M d as σ Q := by
  refine Met.ofW (cc := M.2.1) (maxL := M.2.2.1) (ret := M.2.2.2) hy rfl ?_
  intro p e s m args below meth c s₁ B hml hv
  obtain ⟨rfl, hE, hWd⟩ := hv
  have hx := B.exec
  have hb := B.bytes
  have hr := B.returns
  have hts := atoms_spec (ws := wsM M) B.pre
  have hown : s.vm.findClass M.1.cls = some m.cls := findClass_of_methodNamed B.named
  have hlocks := B.notSynchronized
  have hl := lv_entry (as.map (cv κ)) (n := M.2.2.1) (by rw [eW_len]; exact hn)
  rw [lg_entry_eq]
  generalize (lg_sl (as.map (cv κ)) ++ List.replicate (M.2.2.1 - (lg_sl (as.map (cv κ))).length) Slot.unset).toArray = ls at hl ⊢
  refine h p e s m _ below meth c s.heap [] ls ⟨hx, hb, hml, hown, fun w hw => hts w (List.mem_cons_of_mem _ hw), hr, hlocks⟩ hE va_S.rf hWd ⟨hl.1, hl.2.1, fun i v hi => ?_⟩
  have hi2 : (eL as)[i]? = some (some v) := by
    rcases Nat.lt_or_ge i (eL as).length with h1 | h1
    · rw [List.getElem?_append_left h1] at hi; exact hi
    · rw [List.getElem?_append_right h1, List.getElem?_replicate] at hi
      split at hi <;> cases hi
  have h3 := eL_args (κ := κ) (j := 0) hi2
  exact hl.2.2 _ h3
/-! calls -/
def catA : AV → Nat
  | .inr (.inl _) => 2
  | _ => 1
theorem catA_cv (v : AV) : (cv κ v).category = catA v := by
  match v with
  | .inl n => rfl
  | .inr (.inl n) => rfl
  | .inr (.inr none) => rfl
  | .inr (.inr (some k)) => rfl
theorem cat_sum {st : List AV} : ((st.map (cv κ)).map fun v => v.category).sum = (st.map catA).sum := by
  rw [List.map_map]
  congr 1
  exact List.map_congr_left (fun v _ => catA_cv v)
/-- the words of a call: entry idx of own's pool is the method y with n parameters -/
def ckB (own : String) (idx : Nat) (M' : Md) (n : Nat) : Prop :=
  Cond.methodLink own idx M'.1 ∈ gw ∧ Cond.initialized M'.1.cls ∈ gw ∧ Cond.code M'.1 M'.2.1 M'.2.2.1 M'.2.2.2 ∈ gw ∧ M'.1.cls ≠ "java/lang/invoke/MethodHandle" ∧ M'.1.cls ≠ "java/lang/invoke/VarHandle" ∧ (parseMethodDescriptor M'.1.desc).map (fun d => d.parameters.length) = some n ∧ M'.2.2.1 ≤ 21
theorem gwM {M' : Md} (h : Cond.code M'.1 M'.2.1 M'.2.2.1 M'.2.2.2 ∈ gw) : GoodIn gw (wsM M') := by
  intro w hw
  rcases List.mem_cons.mp hw with rfl | h2
  · exact gw_good _ h
  · exact gw_good _ h2
theorem callB_go {own : String} {idx n d d' : Nat} {M' : Md} {s : State} {args : Array Value} (ck : ckB own idx M' n) (hd : d' + 1 ≤ d) (ht : ∀ w ∈ gw, w.before args s = true) : CallB (rmD d) s args own idx M'.1 M'.2.1 M'.2.2.1 M'.2.2.2 (wsM M') (rmD d') 0 0 n := by
  obtain ⟨h1, h2, h3, h4, h5, h6, h7⟩ := ck
  refine callB_of n ht (gwM h3) rfl rfl rfl (ht _ h2) (ht _ h1) ⟨h4, h5, h6⟩ ⟨?_, ?_⟩
  · show d' + 1 ≤ d; exact hd
  · show 8 + (M'.2.2.1 + 11) + 40 * d' ≤ 40 * d; omega
theorem after_call {d d' : Nat} {Q Q' : Option AV → Sg → Prop} {rest : List AV} {st0 : List Value} {a : Array Value} {p : Program} {e : Env} {s : State} {m : MethodId} {args : Array Value} {below : List Frame} {meth : Method} {c : Code} {H : Heap} {locs : List Loc} {ls : Array Slot}
    (F : Fx M p s m args meth c) (hE : Ev κ s) (hS : va_S (kA κ) s.heap H locs) (hL : Lr κ M.2.2.1 L ls)
    (hr : va_Run p κ.1 e (rmD d) s m args below meth c H locs 0 0 0 0 (F0 m pc ls st0) (rest.map (cv κ)) (Qc κ Q' a) (kA κ))
    (kk : ∀ r σ', Q' r σ' → Go κ M (eM κ d Q) (pc + 3) L (r.toList ++ rest) σ') :
    W p κ.1 e (rmD d) s m args below meth c H locs 0 0 ((eM κ d Q).2.2.2 below args s) (F0 m pc ls st0) := by
  intro T hT X
  obtain ⟨v, st₀, t, T', L', h0, X', hL', e1, e2, ⟨⟨r, σ', hv, hq, hWd⟩, hz, hk⟩, stp⟩ := hr T hT X
  cases hv
  rw [h0] at hz hk
  have hk2 := kk r σ' hq p e s m args below meth c T'.heap (locs ++ L') ls F hE ⟨Nat.le_trans hS.1 (by rw [e1]; exact hz), fun q h1 h2 => by rw [e1, hk q (Nat.lt_of_lt_of_le h1 hS.1) h2]; exact hS.2.1 q h1 h2, fun q hq => by
      rcases List.mem_append.mp hq with h | h
      · exact hS.2.2 q h
      · exact hL' q h⟩ (by rw [e1]; exact hWd) hL
  obtain ⟨t2, a1, b1⟩ := hk2 T' rfl X'
  refine ⟨t2, stp t2 ?_, b1⟩
  have e3 : (r.map (cv κ)).toList ++ rest.map (cv κ) = (r.toList ++ rest).map (cv κ) := by cases r <;> rfl
  show Steps p.tables e below (T'.setTop { F0 m pc ls st0 with pc := pc + 3, stack := (r.map (cv κ)).toList ++ rest.map (cv κ) }) t2
  rw [e3]
  exact a1
theorem Go.callS {M' : Md} {d d' n idx : Nat} {Q Q' : Option AV → Sg → Prop} (as rest : List AV) (hd : decode M.2.1 pc = .ok (.invokestatic idx, 3)) (ck : ckB M.1.cls idx M' n ∧ Cond.static M'.1 ∈ gw) (hst : st = as.reverse ++ rest) (hn : as.length = n) (hW8 : (rest.map catA).sum ≤ 8) (hdd : d' + 1 ≤ d) (hc : Con κ M' d' as σ Q')
    (kk : ∀ r σ', Q' r σ' → Go κ M (eM κ d Q) (pc + 3) L (r.toList ++ rest) σ') : Go κ M (eM κ d Q) pc L st σ := by
  intro p e s m args below meth c H locs ls F hE hS hWd hL
  refine after_call (d' := d') F hE hS hL (va_runS (As := as.map (cv κ)) (n := n) ⟨F.1, F.2.1, F.2.2.1, F.2.2.2.1, F.2.2.2.2.1⟩ hc ⟨callB_go ck.1 hdd F.2.2.2.2.1, F.2.2.2.2.1 _ ck.2⟩ ⟨con_blind, fun U hU hW => ⟨rfl, hE.later hS hU hW, by rw [hU]; exact hWd⟩⟩ rfl (by rw [List.length_map]; exact hn) hL.1 (by rw [hst, List.map_append, List.map_reverse]) ?_ hd ⟨Nat.le_refl 0, Nat.le_refl 0⟩) kk
  show 2 * 0 + _ ≤ 8
  rw [cat_sum]; omega
theorem Go.callV {M' : Md} {d d' n idx c k : Nat} {C : String} {Q Q' : Option AV → Sg → Prop} (as rest : List AV) (hd : decode M.2.1 pc = .ok (.invokevirtual idx, 3)) (ck : ckB M.1.cls idx M' n ∧ Cond.instanceMethod M'.1 ∈ gw ∧ Cond.selects C M'.1 M'.1 ∈ gw) (hl : lay k = (1, c)) (hC : (vwCl[c]?).map (fun q => q.1) = some C) (hst : st = as.reverse ++ vr k :: rest) (hn : as.length = n) (hW8 : (rest.map catA).sum ≤ 8) (hdd : d' + 1 ≤ d) (hc : Con κ M' d' (vr k :: as) σ Q')
    (kk : ∀ r σ', Q' r σ' → Go κ M (eM κ d Q) (pc + 3) L (r.toList ++ rest) σ') : Go κ M (eM κ d Q) pc L st σ := by
  intro p e s m args below meth cd H locs ls F hE hS hWd hL
  obtain ⟨⟨C', T, N⟩, hq, hC2⟩ := Option.map_eq_some_iff.mp hC
  have hC3 : C' = C := hC2
  subst hC3
  have hrecv : ∃ cellB : Cell, H[kAd κ k]? = some cellB ∧ cellB.vm.isStatics = false ∧ s.vm.findClass C' = some cellB.cls := by
    obtain ⟨cell, q1, q2, q3, -⟩ := hWd.obj (lay_lt hl (by show 1 < 9; decide)) hl hq
    exact ⟨cell, q1, by rw [q3]; rfl, by rw [q2]; exact (hE.1.1 c _ hq).2.1⟩
  refine after_call (d' := d') F hE hS hL (va_runV (As := as.map (cv κ)) (n := n) (b := kAd κ k) (C := C') ⟨F.1, F.2.1, F.2.2.1, F.2.2.2.1, F.2.2.2.2.1⟩ hc ⟨callB_go ck.1 hdd F.2.2.2.2.1, F.2.2.2.2.1 _ ck.2.1, F.2.2.2.2.1 _ ck.2.2⟩ ⟨con_blind, hrecv, fun U hU hW => ⟨rfl, hE.later hS hU hW, by rw [hU]; exact hWd⟩⟩ rfl (by rw [List.length_map]; exact hn) hL.1 (by rw [hst, List.map_append, List.map_reverse]; rfl) ?_ hd ⟨Nat.le_refl 0, Nat.le_refl 0⟩) kk
  show 2 * 0 + _ ≤ 8
  rw [cat_sum]; omega
end GoCall
