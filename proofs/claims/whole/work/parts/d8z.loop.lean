section LawLoop
variable {κ : Kx} {i : Int} {σ τ : Sg}
theorem lwH (hn : κ.2.2.2.2.2.1 ≤ 3072) (hi : 0 ≤ i ∧ i ≤ (κ.2.2.2.2.2.1 : Int) + 6) (K : i ≤ (κ.2.2.2.2.2.1 : Int) - 6 → Go κ mL (eLw κ) 33 (lL i) [vi (bAnd (sc κ i) 63)] (ms false τ σ)) (h : Inv σ τ) (ho : okS σ) (hp : okS τ) : Go κ mL (eLw κ) 18 (lL i) [] (ms false τ σ) := by
  refine G_iload_n 3 rfl rfl dL_law_18 ?_
  refine G_aload_n 0 rfl rfl dL_law_19 ?_
  refine G_slen dL_law_20 ?_
  refine G_bipush dL_law_21 (by decide) ?_
  refine G_isub dL_law_23 ?_
  refine G_icmp_gt dL_law_24 ⟨⟨by omega, by omega⟩, ⟨by omega, by omega⟩⟩ (tgt := 1335) (by decide) (fun _ => ?_) (fun z => ?_)
  · exact G_iconst dL_law_1335 G_lend
  · refine G_aload_n 0 rfl rfl dL_law_27 ?_
    refine G_iload_n 3 rfl rfl dL_law_28 ?_
    refine G_scr ⟨by omega, by omega⟩ hn dL_law_29 ?_
    refine G_bipush dL_law_30 (by decide) ?_
    exact G_iand dL_law_32 (K (by omega))
theorem lwSwt (hn : κ.2.2.2.2.2.1 ≤ 3072) (hi : 0 ≤ i ∧ i + 6 ≤ (κ.2.2.2.2.2.1 : Int)) {x : Int} (hx : inR x) (K : ∀ σ τ, Inv σ τ → okS σ → okS τ → Go κ mL (eLw κ) 1329 (lL i) [] (ms false τ σ)) (h : Inv σ τ) (ho : okS σ) (hp : okS τ) : Go κ mL (eLw κ) 33 (lL i) [vi x] (ms false τ σ) := by
  by_cases hr : 0 ≤ x ∧ x ≤ 36
  · have hc : x = 0 ∨ x = 1 ∨ x = 2 ∨ x = 3 ∨ x = 4 ∨ x = 5 ∨ x = 6 ∨ x = 7 ∨ x = 8 ∨ x = 9 ∨ x = 10 ∨ x = 11 ∨ x = 12 ∨ x = 13 ∨ x = 14 ∨ x = 15 ∨ x = 16 ∨ x = 17 ∨ x = 18 ∨ x = 19 ∨ x = 20 ∨ x = 21 ∨ x = 22 ∨ x = 23 ∨ x = 24 ∨ x = 25 ∨ x = 26 ∨ x = 27 ∨ x = 28 ∨ x = 29 ∨ x = 30 ∨ x = 31 ∨ x = 32 ∨ x = 33 ∨ x = 34 ∨ x = 35 ∨ x = 36 := by omega
    rcases hc with e | e | e | e | e | e | e | e | e | e | e | e | e | e | e | e | e | e | e | e | e | e | e | e | e | e | e | e | e | e | e | e | e | e | e | e | e
    · exact G_tblI 0 e dL_law_33 ⟨by decide, by decide⟩ (by decide) (by decide) (off := 163) (by decide) (tgt := 196) (by decide) (lc0 hn hi K h ho hp)
    · exact G_tblI 1 e dL_law_33 ⟨by decide, by decide⟩ (by decide) (by decide) (off := 186) (by decide) (tgt := 219) (by decide) (lc1 hn hi K h ho hp)
    · exact G_tblI 2 e dL_law_33 ⟨by decide, by decide⟩ (by decide) (by decide) (off := 229) (by decide) (tgt := 262) (by decide) (lc2 hn hi K h ho hp)
    · exact G_tblI 3 e dL_law_33 ⟨by decide, by decide⟩ (by decide) (by decide) (off := 298) (by decide) (tgt := 331) (by decide) (lc3 hn hi K h ho hp)
    · exact G_tblI 4 e dL_law_33 ⟨by decide, by decide⟩ (by decide) (by decide) (off := 321) (by decide) (tgt := 354) (by decide) (lc4 hn hi K h ho hp)
    · exact G_tblI 5 e dL_law_33 ⟨by decide, by decide⟩ (by decide) (by decide) (off := 334) (by decide) (tgt := 367) (by decide) (lc5 hn hi K h ho hp)
    · exact G_tblI 6 e dL_law_33 ⟨by decide, by decide⟩ (by decide) (by decide) (off := 357) (by decide) (tgt := 390) (by decide) (lc6 hn hi K h ho hp)
    · exact G_tblI 7 e dL_law_33 ⟨by decide, by decide⟩ (by decide) (by decide) (off := 420) (by decide) (tgt := 453) (by decide) (lc7 hn hi K h ho hp)
    · exact G_tblI 8 e dL_law_33 ⟨by decide, by decide⟩ (by decide) (by decide) (off := 443) (by decide) (tgt := 476) (by decide) (lc8 hn hi K h ho hp)
    · exact G_tblI 9 e dL_law_33 ⟨by decide, by decide⟩ (by decide) (by decide) (off := 466) (by decide) (tgt := 499) (by decide) (lc9 hn hi K h ho hp)
    · exact G_tblI 10 e dL_law_33 ⟨by decide, by decide⟩ (by decide) (by decide) (off := 489) (by decide) (tgt := 522) (by decide) (lc10 hn hi K h ho hp)
    · exact G_tblI 11 e dL_law_33 ⟨by decide, by decide⟩ (by decide) (by decide) (off := 522) (by decide) (tgt := 555) (by decide) (lc11 hn hi K h ho hp)
    · exact G_tblI 12 e dL_law_33 ⟨by decide, by decide⟩ (by decide) (by decide) (off := 555) (by decide) (tgt := 588) (by decide) (lc12 hn hi K h ho hp)
    · exact G_tblI 13 e dL_law_33 ⟨by decide, by decide⟩ (by decide) (by decide) (off := 588) (by decide) (tgt := 621) (by decide) (lc13 hn hi K h ho hp)
    · exact G_tblI 14 e dL_law_33 ⟨by decide, by decide⟩ (by decide) (by decide) (off := 621) (by decide) (tgt := 654) (by decide) (lc14 hn hi K h ho hp)
    · exact G_tblI 15 e dL_law_33 ⟨by decide, by decide⟩ (by decide) (by decide) (off := 654) (by decide) (tgt := 687) (by decide) (lc15 hn hi K h ho hp)
    · exact G_tblI 16 e dL_law_33 ⟨by decide, by decide⟩ (by decide) (by decide) (off := 697) (by decide) (tgt := 730) (by decide) (lc16 hn hi K h ho hp)
    · exact G_tblI 17 e dL_law_33 ⟨by decide, by decide⟩ (by decide) (by decide) (off := 740) (by decide) (tgt := 773) (by decide) (lc17 hn hi K h ho hp)
    · exact G_tblI 18 e dL_law_33 ⟨by decide, by decide⟩ (by decide) (by decide) (off := 773) (by decide) (tgt := 806) (by decide) (lc18 hn hi K h ho hp)
    · exact G_tblI 19 e dL_law_33 ⟨by decide, by decide⟩ (by decide) (by decide) (off := 796) (by decide) (tgt := 829) (by decide) (lc19 hn hi K h ho hp)
    · exact G_tblI 20 e dL_law_33 ⟨by decide, by decide⟩ (by decide) (by decide) (off := 819) (by decide) (tgt := 852) (by decide) (lc20 hn hi K h ho hp)
    · exact G_tblI 21 e dL_law_33 ⟨by decide, by decide⟩ (by decide) (by decide) (off := 852) (by decide) (tgt := 885) (by decide) (lc21 hn hi K h ho hp)
    · exact G_tblI 22 e dL_law_33 ⟨by decide, by decide⟩ (by decide) (by decide) (off := 885) (by decide) (tgt := 918) (by decide) (lc22 hn hi K h ho hp)
    · exact G_tblI 23 e dL_law_33 ⟨by decide, by decide⟩ (by decide) (by decide) (off := 908) (by decide) (tgt := 941) (by decide) (lc23 hn hi K h ho hp)
    · exact G_tblI 24 e dL_law_33 ⟨by decide, by decide⟩ (by decide) (by decide) (off := 931) (by decide) (tgt := 964) (by decide) (lc24 hn hi K h ho hp)
    · exact G_tblI 25 e dL_law_33 ⟨by decide, by decide⟩ (by decide) (by decide) (off := 954) (by decide) (tgt := 987) (by decide) (lc25 hn hi K h ho hp)
    · exact G_tblI 26 e dL_law_33 ⟨by decide, by decide⟩ (by decide) (by decide) (off := 997) (by decide) (tgt := 1030) (by decide) (lc26 hn hi K h ho hp)
    · exact G_tblI 27 e dL_law_33 ⟨by decide, by decide⟩ (by decide) (by decide) (off := 1010) (by decide) (tgt := 1043) (by decide) (lc27 hn hi K h ho hp)
    · exact G_tblI 28 e dL_law_33 ⟨by decide, by decide⟩ (by decide) (by decide) (off := 1053) (by decide) (tgt := 1086) (by decide) (lc28 hn hi K h ho hp)
    · exact G_tblI 29 e dL_law_33 ⟨by decide, by decide⟩ (by decide) (by decide) (off := 1076) (by decide) (tgt := 1109) (by decide) (lc29 hn hi K h ho hp)
    · exact G_tblI 30 e dL_law_33 ⟨by decide, by decide⟩ (by decide) (by decide) (off := 1089) (by decide) (tgt := 1122) (by decide) (lc30 hn hi K h ho hp)
    · exact G_tblI 31 e dL_law_33 ⟨by decide, by decide⟩ (by decide) (by decide) (off := 1122) (by decide) (tgt := 1155) (by decide) (lc31 hn hi K h ho hp)
    · exact G_tblI 32 e dL_law_33 ⟨by decide, by decide⟩ (by decide) (by decide) (off := 1155) (by decide) (tgt := 1188) (by decide) (lc32 hn hi K h ho hp)
    · exact G_tblI 33 e dL_law_33 ⟨by decide, by decide⟩ (by decide) (by decide) (off := 1198) (by decide) (tgt := 1231) (by decide) (lc33 hn hi K h ho hp)
    · exact G_tblI 34 e dL_law_33 ⟨by decide, by decide⟩ (by decide) (by decide) (off := 1221) (by decide) (tgt := 1254) (by decide) (lc34 hn hi K h ho hp)
    · exact G_tblI 35 e dL_law_33 ⟨by decide, by decide⟩ (by decide) (by decide) (off := 1234) (by decide) (tgt := 1267) (by decide) (lc35 hn hi K h ho hp)
    · exact G_tblI 36 e dL_law_33 ⟨by decide, by decide⟩ (by decide) (by decide) (off := 1273) (by decide) (tgt := 1306) (by decide) (lc36 hn hi K h ho hp)
  · exact G_tblO dL_law_33 hx (by omega) (tgt := 1329) (by decide) (K σ τ h ho hp)
theorem lwLoop (hn : κ.2.2.2.2.2.1 ≤ 3072) : ∀ (N : Nat) (i : Int) (σ τ : Sg), 0 ≤ i → (κ.2.2.2.2.2.1 : Int) + 6 - i ≤ (N : Int) → i ≤ (κ.2.2.2.2.2.1 : Int) + 6 → Inv σ τ → okS σ → okS τ → Go κ mL (eLw κ) 18 (lL i) [] (ms false τ σ) := by
  intro N
  induction N with
  | zero =>
    intro i σ τ h0 h1 h2 h ho hp
    refine lwH hn ⟨h0, h2⟩ (fun z => (by omega)) h ho hp
  | succ N ih =>
    intro i σ τ h0 h1 h2 h ho hp
    refine lwH hn ⟨h0, h2⟩ (fun z => lwSwt hn ⟨h0, by omega⟩ (bAnd_R _ _) (fun σ τ h ho hp => ?_) h ho hp) h ho hp
    refine G_iinc_w 3 rfl (by decide) rfl dL_law_1329 ?_
    refine G_goto (tgt := 18) dL_law_1332 (by decide) ?_
    exact ih (i + 6) σ τ (by omega) (by omega) (by omega) h ho hp
end LawLoop
