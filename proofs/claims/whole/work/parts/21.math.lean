section GoMath
variable {κ : Kx} {M : Md} {pc : Nat} {L : List (Option AV)} {st : List AV} {σ : Sg}
variable {α : Type} {o : Option α} {K : α → Prop}
def ckM (own : String) (idx : Nat) (y : MethodName) (c : ByteArray) (n : Nat) : Prop := Cond.methodLink own idx y ∈ gw ∧ Cond.static y ∈ gw ∧ Cond.initialized "java/lang/Math" ∈ gw ∧ Cond.code y c n (some .int) ∈ gw
theorem Rk.mmax {d idx : Nat} {x y : Int} {f : Int → Option α} {Q : Option AV → Sg → Prop} (ck : ckM M.1.cls idx Lib.Math.max.name Lib.Math.max.code 2) (hx : inR x) (hy : inR y) (hd1 : 1 ≤ d) (hW8 : (st.map catA).sum ≤ 8) (hd : decode M.2.1 pc = .ok (.invokestatic idx, 3)) (kk : ∀ r, inR r → Rk κ M (eM κ d Q) (pc + 3) L (vi r :: st) σ (f r) K) : Rk κ M (eM κ d Q) pc L (vi y :: vi x :: st) σ (b1 (Jm_max x y) f) K := by
  intro a ha hk p e s m args below meth c H locs ls F hE hS hW hL
  refine va_mmax (x := Int32.ofInt x) (y := Int32.ofInt y) F.1 F.2.1 (by rw [F.2.2.1, hL.1]) F.2.2.2.1 (F.2.2.2.2.1 _ ck.1) (F.2.2.2.2.1 _ ck.2.1) (F.2.2.2.2.1 _ ck.2.2.1) (F.2.2.2.2.1 _ ck.2.2.2) (show 1 ≤ d from hd1) (by show _ + 13 ≤ 40 * d; rw [cat_sum]; omega) (Nat.le_refl 0) (Nat.le_refl 0) hd ?_
  unfold Jm_max b1 at ha
  by_cases h : x < y
  · rw [if_pos h] at ha
    rw [if_pos ((i32_lt hx hy).mpr h)]
    exact kk y hy a ha hk p e s m args below meth c H locs ls F hE hS hW hL
  · rw [if_neg h] at ha
    rw [if_neg (fun z => h ((i32_lt hx hy).mp z))]
    exact kk x hx a ha hk p e s m args below meth c H locs ls F hE hS hW hL
theorem Rk.mmin {d idx : Nat} {x y : Int} {f : Int → Option α} {Q : Option AV → Sg → Prop} (ck : ckM M.1.cls idx Lib.Math.min.name Lib.Math.min.code 2) (hx : inR x) (hy : inR y) (hd1 : 1 ≤ d) (hW8 : (st.map catA).sum ≤ 8) (hd : decode M.2.1 pc = .ok (.invokestatic idx, 3)) (kk : ∀ r, inR r → Rk κ M (eM κ d Q) (pc + 3) L (vi r :: st) σ (f r) K) : Rk κ M (eM κ d Q) pc L (vi y :: vi x :: st) σ (b1 (Jm_min x y) f) K := by
  intro a ha hk p e s m args below meth c H locs ls F hE hS hW hL
  refine va_mmin (x := Int32.ofInt x) (y := Int32.ofInt y) F.1 F.2.1 (by rw [F.2.2.1, hL.1]) F.2.2.2.1 (F.2.2.2.2.1 _ ck.1) (F.2.2.2.2.1 _ ck.2.1) (F.2.2.2.2.1 _ ck.2.2.1) (F.2.2.2.2.1 _ ck.2.2.2) (show 1 ≤ d from hd1) (by show _ + 13 ≤ 40 * d; rw [cat_sum]; omega) (Nat.le_refl 0) (Nat.le_refl 0) hd ?_
  unfold Jm_min b1 at ha
  by_cases h : y < x
  · rw [if_pos h] at ha
    rw [if_pos ((i32_lt hy hx).mpr h)]
    exact kk y hy a ha hk p e s m args below meth c H locs ls F hE hS hW hL
  · rw [if_neg h] at ha
    rw [if_neg (fun z => h ((i32_lt hy hx).mp z))]
    exact kk x hx a ha hk p e s m args below meth c H locs ls F hE hS hW hL
theorem Rk.mabs {d idx : Nat} {x : Int} {f : Int → Option α} {Q : Option AV → Sg → Prop} (ck : ckM M.1.cls idx Lib.Math.abs.name Lib.Math.abs.code 1) (hx : inR x) (hd1 : 1 ≤ d) (hW8 : (st.map catA).sum ≤ 8) (hd : decode M.2.1 pc = .ok (.invokestatic idx, 3)) (kk : ∀ r, inR r → Rk κ M (eM κ d Q) (pc + 3) L (vi r :: st) σ (f r) K) : Rk κ M (eM κ d Q) pc L (vi x :: st) σ (b1 (Jm_abs x) f) K := by
  intro a ha hk p e s m args below meth c H locs ls F hE hS hW hL
  refine va_mabs (x := Int32.ofInt x) F.1 F.2.1 (by rw [F.2.2.1, hL.1]) F.2.2.2.1 (F.2.2.2.2.1 _ ck.1) (F.2.2.2.2.1 _ ck.2.1) (F.2.2.2.2.1 _ ck.2.2.1) (F.2.2.2.2.1 _ ck.2.2.2) (show 1 ≤ d from hd1) (by show _ + 13 ≤ 40 * d; rw [cat_sum]; omega) (Nat.le_refl 0) (Nat.le_refl 0) hd ?_
  unfold Jm_abs b1 at ha
  by_cases h : x < 0
  · rw [if_pos h] at ha
    rw [if_neg (fun z => by rw [← i32_0, i32_le (by decide) hx] at z; omega)]
    have h2 := kk _ (wrR _) a ha hk p e s m args below meth c H locs ls F hE hS hW hL
    have e1 : (0 : Int32) - Int32.ofInt x = Int32.ofInt (wr (-x)) := by
      rw [← wr_of, ← i32_0, ← Int32.ofInt_sub]; congr 1; omega
    rw [e1]; exact h2
  · rw [if_neg h] at ha
    rw [if_pos (by rw [← i32_0, i32_le (by decide) hx]; omega)]
    exact kk x hx a ha hk p e s m args below meth c H locs ls F hE hS hW hL
theorem cmmX8_141 : ckM "ThreeDots" 141 Lib.Math.min.name Lib.Math.min.code 2 := ⟨(g_t2 218 (by decide +kernel) (by decide +kernel)), (g_t2 219 (by decide +kernel) (by decide +kernel)), (g_t1 12 (by decide +kernel) (by decide +kernel)), (g_t2 220 (by decide +kernel) (by decide +kernel))⟩
theorem cmmX8_251 : ckM "ThreeDots" 251 Lib.Math.max.name Lib.Math.max.code 2 := ⟨(g_t4 82 (by decide +kernel) (by decide +kernel)), (g_t2 207 (by decide +kernel) (by decide +kernel)), (g_t1 12 (by decide +kernel) (by decide +kernel)), (g_t2 208 (by decide +kernel) (by decide +kernel))⟩
theorem cmmX8_266 : ckM "ThreeDots" 266 Lib.Math.abs.name Lib.Math.abs.code 1 := ⟨(g_t4 109 (by decide +kernel) (by decide +kernel)), (g_t4 110 (by decide +kernel) (by decide +kernel)), (g_t1 12 (by decide +kernel) (by decide +kernel)), (g_t4 111 (by decide +kernel) (by decide +kernel))⟩
theorem cmmX0_46 : ckM "ThreeDots$Course" 46 Lib.Math.min.name Lib.Math.min.code 2 := ⟨(g_t3 10 (by decide +kernel) (by decide +kernel)), (g_t2 219 (by decide +kernel) (by decide +kernel)), (g_t1 12 (by decide +kernel) (by decide +kernel)), (g_t2 220 (by decide +kernel) (by decide +kernel))⟩
theorem cmmX0_125 : ckM "ThreeDots$Course" 125 Lib.Math.max.name Lib.Math.max.code 2 := ⟨(g_t2 206 (by decide +kernel) (by decide +kernel)), (g_t2 207 (by decide +kernel) (by decide +kernel)), (g_t1 12 (by decide +kernel) (by decide +kernel)), (g_t2 208 (by decide +kernel) (by decide +kernel))⟩
theorem cmmX1_51 : ckM "ThreeDots$Glance" 51 Lib.Math.max.name Lib.Math.max.code 2 := ⟨(g_t4 132 (by decide +kernel) (by decide +kernel)), (g_t2 207 (by decide +kernel) (by decide +kernel)), (g_t1 12 (by decide +kernel) (by decide +kernel)), (g_t2 208 (by decide +kernel) (by decide +kernel))⟩
theorem cmmX1_71 : ckM "ThreeDots$Glance" 71 Lib.Math.min.name Lib.Math.min.code 2 := ⟨(g_t4 193 (by decide +kernel) (by decide +kernel)), (g_t2 219 (by decide +kernel) (by decide +kernel)), (g_t1 12 (by decide +kernel) (by decide +kernel)), (g_t2 220 (by decide +kernel) (by decide +kernel))⟩
theorem cmmX1_96 : ckM "ThreeDots$Glance" 96 Lib.Math.abs.name Lib.Math.abs.code 1 := ⟨(g_t5 37 (by decide +kernel) (by decide +kernel)), (g_t4 110 (by decide +kernel) (by decide +kernel)), (g_t1 12 (by decide +kernel) (by decide +kernel)), (g_t4 111 (by decide +kernel) (by decide +kernel))⟩
theorem cmmX2_63 : ckM "ThreeDots$Judge" 63 Lib.Math.min.name Lib.Math.min.code 2 := ⟨(g_t3 58 (by decide +kernel) (by decide +kernel)), (g_t2 219 (by decide +kernel) (by decide +kernel)), (g_t1 12 (by decide +kernel) (by decide +kernel)), (g_t2 220 (by decide +kernel) (by decide +kernel))⟩
theorem cmmX2_68 : ckM "ThreeDots$Judge" 68 Lib.Math.max.name Lib.Math.max.code 2 := ⟨(g_t3 59 (by decide +kernel) (by decide +kernel)), (g_t2 207 (by decide +kernel) (by decide +kernel)), (g_t1 12 (by decide +kernel) (by decide +kernel)), (g_t2 208 (by decide +kernel) (by decide +kernel))⟩
theorem cmmX5_29 : ckM "ThreeDots$Sheet" 29 Lib.Math.min.name Lib.Math.min.code 2 := ⟨(g_t4 37 (by decide +kernel) (by decide +kernel)), (g_t2 219 (by decide +kernel) (by decide +kernel)), (g_t1 12 (by decide +kernel) (by decide +kernel)), (g_t2 220 (by decide +kernel) (by decide +kernel))⟩
end GoMath
