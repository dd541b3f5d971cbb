/-! the start of the law -/
section Start2
/-- the addresses: the new cells from sz on; texts, tables and the script where they lie -/
def adF (sz : Nat) (adK adV : Nat → Nat) (tL tM b tF : Nat) (k : Nat) : Nat :=
  if k < 189 then sz + k else if k = 1200 then tL else if k = 1201 then tM else if k = 1202 then b else if k = 1203 then tF else if k % 2 = 0 then adK ((k - 1000) / 2) else adV ((k - 1001) / 2)
theorem adF_n {sz tL tM b tF k : Nat} {adK adV : Nat → Nat} (h : k < 189) : adF sz adK adV tL tM b tF k = sz + k := if_pos h
theorem adF_K {sz tL tM b tF i : Nat} {adK adV : Nat → Nat} (h : i < nStr) : adF sz adK adV tL tM b tF (1000 + 2 * i) = adK i := by
  have h : i < 33 := h
  unfold adF
  rw [if_neg (by omega), if_neg (by omega), if_neg (by omega), if_neg (by omega), if_neg (by omega), if_pos (by omega)]
  congr 1; omega
theorem adF_V {sz tL tM b tF i : Nat} {adK adV : Nat → Nat} (h : i < nStr) : adF sz adK adV tL tM b tF (1001 + 2 * i) = adV i := by
  have h : i < 33 := h
  unfold adF
  rw [if_neg (by omega), if_neg (by omega), if_neg (by omega), if_neg (by omega), if_neg (by omega), if_neg (by omega)]
  congr 1; omega
theorem tbS {s : State} {args : Array Value} {A : Nat → Prop} {n : String} {f : Nat → Int} (hl : (Cond.laysStatic "ThreeDots$Judge" n "[I").before args s = true) (hi : (Cond.initialized "ThreeDots$Judge").before args s = true) (h1 : (Cond.arrayOf (.static "ThreeDots$Judge" n "[I") .int).before args s = true) (h2 : (Cond.eq (.length (.static "ThreeDots$Judge" n "[I")) (.int 5)).before args s = true) (h3 : ∀ j, j < 5 → (Cond.eq (.elem (.static "ThreeDots$Judge" n "[I") (.int (Int32.ofNat j))) (.int (Int32.ofInt (f j)))).before args s = true) (hA : ∀ a : Nat, a < s.heap.size → ¬ A a) : ∃ t, va_Z "ThreeDots$Judge" n "[I" (.ref t) A s s.heap ∧ va_T .int t 5 (fun j => .int (Int32.ofInt (f j))) A s s.heap := by
  obtain ⟨t, ht, hT⟩ := va_Tof (N := 5) (f := fun j => .int (Int32.ofInt (f j))) (A := A) (by decide) h1 (va_eqt h2) (fun j hj => va_eqt (h3 j hj)) hA
  exact ⟨t, va_Zref hl hi ht hA, hT⟩
theorem evStart {p : Program} {s : State} {m : MethodId} {meth : Method} {c : Code} {b L : Nat} {xs : Nat → Int32} (l : Launch) (C0 : lw_At p s m meth c b L xs) : ∃ κ : Kx, κ.1 = l ∧ κ.2.2.2.2.2 = (L, xs) ∧ kAd κ 1202 = b ∧ kA κ = (fun q => s.heap.size ≤ q) ∧ kAd κ 0 = s.heap.size ∧ ad κ ∧ Ex κ s := by
  obtain ⟨-, -, -, -, -, hts, hX, hbl, -, hgv⟩ := C0
  have ht := gw_tb hts
  have hA : ∀ a : Nat, a < s.heap.size → ¬ (fun q => s.heap.size ≤ q) a := fun a h1 h2 => by have h2 : s.heap.size ≤ a := h2; omega
  obtain ⟨D, hD⟩ := allK ht
  obtain ⟨c0, hc0⟩ := arI (ht _ acI)
  have ao1 : (Cond.arrayOver (.object "ThreeDots$Sheet")).before #[Value.ref b] s = true := hts _ (by decide +kernel)
  have ao2 : (Cond.arrayOver (.object "ThreeDots$Talk")).before #[Value.ref b] s = true := hts _ (by decide +kernel)
  obtain ⟨c1, hc1⟩ := arO ao1
  obtain ⟨c2, hc2⟩ := arO ao2
  obtain ⟨adK, adV, hS, hK⟩ := strS (A := fun q => s.heap.size ≤ q) hgv hA
  have iJ : (Cond.initialized "ThreeDots$Judge").before #[Value.ref b] s = true := hts _ (by decide +kernel)
  obtain ⟨tL, hL1, hL2⟩ := tbS (n := "LEAST") (f := mLo) (hts _ (by decide +kernel)) iJ (gvn_at hgv 5 (by decide +kernel)) (gvn_at hgv 6 (by decide +kernel)) (fun j hj => gvn_at hgv (7 + j) ((by decide +kernel : ∀ j, j < 5 → gvn[7 + j]? = some (Cond.eq (.elem (.static "ThreeDots$Judge" "LEAST" "[I") (.int (Int32.ofNat j))) (.int (Int32.ofInt (mLo j))))) j hj)) hA
  obtain ⟨tM, hM1, hM2⟩ := tbS (n := "MOST") (f := mHi) (hts _ (by decide +kernel)) iJ (gvn_at hgv 13 (by decide +kernel)) (gvn_at hgv 14 (by decide +kernel)) (fun j hj => gvn_at hgv (15 + j) ((by decide +kernel : ∀ j, j < 5 → gvn[15 + j]? = some (Cond.eq (.elem (.static "ThreeDots$Judge" "MOST" "[I") (.int (Int32.ofNat j))) (.int (Int32.ofInt (mHi j))))) j hj)) hA
  have hZ : va_Z "java/lang/String" "COMPACT_STRINGS" "Z" (.int 1) (fun q => s.heap.size ≤ q) s s.heap := va_Zof (hts _ (by decide +kernel)) (hts _ (by decide +kernel)) (va_eqt (gvn_at hgv 20 (by decide +kernel))) hA
  have hQ : va_Zq "jdk/internal/util/Preconditions" "SIOOBE_FORMATTER" "Ljava/util/function/BiFunction;" (fun q => s.heap.size ≤ q) s s.heap := va_Zqof (hts _ (by decide +kernel)) (hts _ (by decide +kernel)) (gvn_at hgv 21 (by decide +kernel)) hA
  have hsr : ∀ q ∈ sOwn, Cond.stringRef q.1 q.2.1 q.2.2 ∈ lw_tbl := by decide +kernel
  obtain ⟨tF, w, hw, hwz⟩ : ∃ (tF : Nat) (w : AV), (w = .inr (.inr none) ∨ w = vr 1203) ∧ va_Z "jdk/internal/util/Preconditions" "SIOOBE_FORMATTER" "Ljava/util/function/BiFunction;" (match w with | .inr (.inr (some _)) => .ref tF | _ => .null) (fun q => s.heap.size ≤ q) s s.heap := by
    rcases hQ with h | ⟨t, h⟩
    · exact ⟨0, .inr (.inr none), .inl rfl, h⟩
    · exact ⟨t, vr 1203, .inr rfl, h⟩
  refine ⟨(l, D, fun k => if k = 0 then c0 else if k = 1 then c1 else c2, adF s.heap.size adK adV tL tM b tF, fun q => s.heap.size ≤ q, L, xs), rfl, rfl, rfl, rfl, rfl, ⟨fun i hi => ?_, fun q hq => hq⟩, ⟨⟨hD, fun k q hq => ?_⟩, ?_, ?_, ?_, ?_, hZ, ⟨hL1, hL2⟩, ⟨hM1, hM2⟩, ⟨hX, hA b hbl⟩, w, hw, ?_⟩, ao1, ao2⟩
  · exact adF_n hi
  · have hk : k < 3 := (List.getElem?_eq_some_iff.mp hq).1
    have : k = 0 ∨ k = 1 ∨ k = 2 := by omega
    rcases this with e | e | e <;> subst e <;> cases hq
    · exact hc0
    · exact hc1
    · exact hc2
  · intro i j hi hj e
    have e : adF s.heap.size adK adV tL tM b tF i = adF s.heap.size adK adV tL tM b tF j := e
    rw [adF_n hi, adF_n hj] at e
    omega
  · intro i hi
    show s.heap.size ≤ adF s.heap.size adK adV tL tM b tF i
    rw [adF_n hi]; omega
  · refine ⟨fun i hi => ?_, fun i j hi hj e => ?_⟩
    · show va_O _ (adF s.heap.size adK adV tL tM b tF (1000 + 2 * i)) _ _ _ ∧ va_OF _ _ _ _ (adF s.heap.size adK adV tL tM b tF (1000 + 2 * i)) _ _ _ ∧ va_OF _ _ _ (.ref (adF s.heap.size adK adV tL tM b tF (1001 + 2 * i))) (adF s.heap.size adK adV tL tM b tF (1000 + 2 * i)) _ _ _ ∧ va_T _ (adF s.heap.size adK adV tL tM b tF (1001 + 2 * i)) _ _ _ _ _
      rw [adF_K hi, adF_V hi]
      exact hS.1 i hi
    · have e : adF s.heap.size adK adV tL tM b tF (1000 + 2 * i) = adF s.heap.size adK adV tL tM b tF (1000 + 2 * j) := e
      rw [adF_K hi, adF_K hj] at e
      exact hS.2 i j hi hj e
  · intro i q hq
    have hi : i < nStr := by
      have h1 := (List.getElem?_eq_some_iff.mp hq).1
      have h2 : sOwn.length = nStr := by decide +kernel
      omega
    show vk_R q.1 q.2.1 q.2.2 (adF s.heap.size adK adV tL tM b tF (1000 + 2 * i)) s
    rw [adF_K hi]
    refine vk_R.of (hts _ (hsr q (List.mem_of_getElem? hq))) ?_
    have h3 := hK i hi
    unfold sTm at h3
    rw [hq] at h3
    exact h3
  · rcases hw with e | e
    · subst e; exact hwz
    · subst e; exact hwz
variable {κ : Kx}
/-- when the world is made, the law's loop -/
theorem Gc.loop {M : Md} {E : En} {cn sl pc : Nat} {L : List (Option AV)} {st : List AV} (hc : cn ≤ E.2.1) (hs : sl ≤ E.2.2.1) (k : Go κ M E pc L st s0M) : Gc κ M E.1 E.2.2.2 cn sl pc L st NN (fun _ => []) := by
  intro p e s m args below meth c H locs ls hA F hI hE hS hW hL
  exact W.widen hc hs (k p e s m args below meth c H locs ls F hE.1 hS hW.done hL)
set_option maxRecDepth 100000 in
theorem lawG (hA : ad κ) (hn : κ.2.2.2.2.2.1 ≤ 3072) : Gc κ mL (eLw κ).1 (eLw κ).2.2.2 0 0 0 [some (vr 1202), none, none, none] [] 0 (fun _ => []) := by
  refine Gc.new (c := 8) [0, 1, 2, 3, 4, 5, 6, 7, 8, 9] (by decide) (by decide +kernel) cl8 mnL_7 rfl (by decide +kernel) (by decide +kernel) (cn' := 1) (sl' := 10) rfl rfl (Nat.le_of_ble_eq_true rfl) (Nat.le_of_ble_eq_true rfl) dL_law_0 ?_
  refine Gc.dup dL_law_3 ?_
  refine Gc.call [] [vr 0] mcL_9 rfl rfl (Nat.le_of_ble_eq_true rfl) ⟨Nat.le_of_ble_eq_true rfl, Nat.le_of_ble_eq_true rfl⟩ (cn' := 172) (sl' := 10133) rfl rfl (Nat.le_of_ble_eq_true rfl) (Nat.le_of_ble_eq_true rfl) dL_law_4 (mkTd hA (fun _ _ => rfl)) ?_
  refine Gc.astore 1 rfl (by decide) rfl dL_law_7 rfl ?_
  refine Gc.new (c := 9) [0, 1, 2, 3, 6, 7, 8, 9, 10, 11, 25, 27, 29, 30, 31, 32, 33, 34] (by decide) (by decide +kernel) cl9 mnL_10 rfl (by decide +kernel) (by decide +kernel) (cn' := 173) (sl' := 10168) rfl rfl (Nat.le_of_ble_eq_true rfl) (Nat.le_of_ble_eq_true rfl) dL_law_8 ?_
  refine Gc.dup dL_law_11 ?_
  refine Gc.call [] [vr 172] mcL_12 rfl rfl (Nat.le_of_ble_eq_true rfl) ⟨Nat.le_of_ble_eq_true rfl, Nat.le_of_ble_eq_true rfl⟩ (cn' := 189) (sl' := 20538) rfl rfl (Nat.le_of_ble_eq_true rfl) (Nat.le_of_ble_eq_true rfl) dL_law_12 (mkMo hA (fun _ _ => rfl)) ?_
  refine Gc.astore 2 rfl (by decide) rfl dL_law_15 rfl ?_
  refine Gc.iconst dL_law_16 ?_
  refine Gc.istore 3 rfl (by decide) rfl dL_law_17 rfl ?_
  refine Gc.loop (Nat.le_of_ble_eq_true rfl) (Nat.le_of_ble_eq_true rfl) ?_
  have h := lwLoop (κ := κ) hn 3100 0 s0M s0M (Int.le_refl _) (by omega) (by omega) s0_inv s0_ok s0_ok
  rw [ms_self] at h
  exact h
theorem whole_start {p : Program} {e : Env} {s : State} {m : MethodId} {below : List Frame} {meth : Method} {c : Code} (l : Launch) {b L : Nat} {xs : Nat → Int32} (hL : L ≤ 3072) (C0 : lw_At p s m meth c b L xs) : W p l e room_1 s m #[Value.ref b] below meth c s.heap [] 0 0 (lw_Z below #[Value.ref b] s) (entryFrame m ([Value.ref b] : List Value).toArray 4) := by
  obtain ⟨κ, k1, k2, k3, k4, k5, hA, hE⟩ := evStart l C0
  obtain ⟨hx, hb, hr, hml, hown, hts, hX, hbl, hlk, hgv⟩ := C0
  subst k1
  have hn : κ.2.2.2.2.2.1 ≤ 3072 := by rw [k2]; exact hL
  have hl := lv_entry ([Value.ref b] : List Value) (n := 4) (Nat.le_of_ble_eq_true rfl)
  rw [lg_entry_eq]
  generalize (lg_sl ([Value.ref b] : List Value) ++ List.replicate (4 - (lg_sl ([Value.ref b] : List Value)).length) Slot.unset).toArray = ls at hl ⊢
  have hl : lv_has ls 4 [(0, .ref b)] := hl
  have h := lawG hA hn p e s m #[Value.ref b] below meth c s.heap [] ls hA ⟨hx, hb, hml, hown, gw_tb hts, hr, hlk⟩ (fun z => absurd z (by decide +kernel)) hE va_S.rf ⟨by rw [k5]; rfl, fun k hk => absurd hk (Nat.not_lt_zero k)⟩ ⟨hl.1, hl.2.1, fun i v hi => ?_⟩
  · intro T hT X
    obtain ⟨t, a1, b1⟩ := h T hT X
    exact ⟨t, a1, b1 ⟨by rw [k3], fun q hq => by rw [k4] at hq; exact hq⟩⟩
  · have hi0 : i = 0 := by
      match i, hi with
      | 0, _ => rfl
      | 1, hi => cases hi
      | 2, hi => cases hi
      | 3, hi => cases hi
      | n + 4, hi => cases hi
    subst hi0
    cases hi
    show ls[0]? = some (.val (.ref (kAd κ 1202)))
    rw [k3]
    exact lv_at hl 0 rfl
end Start2
