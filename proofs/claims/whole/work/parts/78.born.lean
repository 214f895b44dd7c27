section KN
variable {L : Nat} {ro M : zM}
/-- the town at the start -/
def wT0 : Nat → Nat := wup1 (wup1 (wup1 (wup1 (wup1 (wup1 (wup1 wCl 0 3) 16 15) 28 30) 17 15) 29 30) 18 20) 30 25
def wa1 : Nat → Nat := fun j => if j = 0 then 15 else 30
def wa2 : Nat → Nat := fun j => if j = 0 then 20 else 25
theorem s32E (h63 : ∀ j, j < 12 → M 63 j = nI ([20, 20, 30, 0, 10, 30, 20, 40, 20, 20, 60, 9].getD j 0)) : ∃ P, zden 0 32 0 [some (.ref 1)] [] M = some (none, P) ∧ (∀ i, (i < 1 ∨ 11 < i) → P i = M i) ∧ zTv P 1 wCl := by
  refine ⟨zcp2 (zfl (zput (zput (zput (zput (zput M 1 2 0) 1 6 0) 1 9 0) 1 13 0) 1 14 0) 7 24 0) 63 0 4 0 12, ?_, fun i hi => ?_, wCl_tv ?_ ?_ ?_ ?_ ?_ ?_ ?_⟩
  · rw [e32E_1_0, s19E_7, zbV_some, s31E_63_4, zbV_some]
  · rw [zcp2_row _ (by omega), zfl_row _ (by omega), zput_ne (by omega), zput_ne (by omega), zput_ne (by omega), zput_ne (by omega), zput_ne (by omega)]
  · rw [zcp2_row _ (by decide), zfl_row _ (by decide)]; simp [zput]
  · rw [zcp2_row _ (by decide), zfl_row _ (by decide)]; simp [zput]
  · rw [zcp2_row _ (by decide), zfl_row _ (by decide)]; simp [zput]
  · rw [zcp2_row _ (by decide), zfl_row _ (by decide)]; simp [zput]
  · rw [zcp2_row _ (by decide), zfl_row _ (by decide)]; simp [zput]
  · intro k hk2
    show zcp2 _ 63 0 4 0 12 4 k = _
    rw [zcp2_in _ (by omega) (by omega), zfl_row _ (by decide), zput_ne (by decide), zput_ne (by decide), zput_ne (by decide), zput_ne (by decide), zput_ne (by decide), show 0 + (k - 0) = k by omega, h63 k hk2]
  · intro h hh
    show zcp2 _ 63 0 4 0 12 7 h = _
    rw [zcp2_row _ (by decide), zfl_in _ hh]
theorem s47E {t a : Nat → Nat} {x y : Int32} (hv : zTv M 1 t) (hp : zTp t) (hw : wall 0 a (wNm 0) 0 = true) (hg : t 0 < 12) (hx : x = nI (a 0)) (hy : y = nI (a 1)) : ∃ P, zden 0 47 0 [some (.ref 1), some (.int x), some (.int y)] [] M = some (some (.int 1), P) ∧ (∀ i, (i < 1 ∨ 11 < i) → P i = M i) ∧ zTv P 1 (wup1 (wup1 (wup1 t 0 (t 0 + 1)) (16 + t 0) (a 0)) (28 + t 0) (a 1)) ∧ zTp (wup1 (wup1 (wup1 t 0 (t 0 + 1)) (16 + t 0) (a 0)) (28 + t 0) (a 1)) := by
  have v0 : M 1 2 = nI (t 0) := hv.1 0 (by unfold wlv; omega)
  refine ⟨(zput (zput (zput M 2 (t 0) (nI (a 0))) 3 (t 0) (nI (a 1))) 1 2 (nI (t 0 + 1))), ?_, fun i hi => by rw [zput_ne (by omega), zput_ne (by omega), zput_ne (by omega)], wv_0 hv hp hw hg, wTk_p0 hp hw hg⟩
  rw [e47E_1_0, v0, if_pos (show nI (t 0) < 12 from nI_lt (b := 12) hg (by omega)), hx, s5E_2, zbV_some, zwr_nI (by omega) (by omega), zput_ne (show 1 ≠ 2 by omega), v0, hy, s5E_3, zbV_some, zwr_nI (by omega) (by omega), zput_ne (show 1 ≠ 3 by omega), zput_ne (show 1 ≠ 2 by omega), v0, nI_1]
theorem s95E (M : zM) : zden 0 95 0 [some (.ref 0), some (.int 0)] [] M = some (none, zbeg M 0) := by
  have h0 : ∀ P : zM, zden 0 0 0 [some (.ref 1), some (.int 7)] [] P = some (some (.int (P 4 7)), P) := by
    intro P
    rw [e0E_1_0, if_neg (by decide), if_pos (by decide), if_pos (by decide), e0E_1_23]
    rfl
  have p40 : ∀ (P : zM) (k : Nat) (i x : Int32), i = nI k → k < 6 → zden 0 5 0 [some (.ref 40), some (.int i), some (.int x)] [] P = some (none, zput P 40 k x) := by
    intro P k i x hi hk
    rw [s5E_40, hi, zwr_nI hk (by omega)]
  rw [e95E_0, s19E_40, zbV_some, if_pos rfl, e95E_22, p40 _ 1 1 0 rfl (by omega), zbV_some, h0, zbI_some, p40 _ 2 2 _ rfl (by omega), zbV_some, e94E_0, e14E_43_0, zbV_some, zbV_some]
  rw [zput_ne (show 4 ≠ 40 by omega), zfl_row M (show 4 ≠ 40 by omega)]
  rfl
theorem wT0_eq : wup1 (wup1 (wup1 (wup1 (wup1 (wup1 (wup1 (wup1 (wup1 wCl 0 1) 16 15) 28 30) 0 2) 17 15) 29 30) 0 3) 18 20) 30 25 = wT0 := by
  funext j
  unfold wT0
  simp only [wup1]
  by_cases h0 : j = 0
  · subst h0; rfl
  · (repeat' split) <;> first | rfl | (exfalso; omega)
/-- the first object as its making leaves it -/
theorem z_new1 (h63 : ∀ j, j < 12 → M 63 j = nI ([20, 20, 30, 0, 10, 30, 20, 40, 20, 20, 60, 9].getD j 0)) : ∃ P C, zden 0 232 201 [some (.ref 0)] [] M = some (none, C) ∧ C = zbeg P 0 ∧ (∀ i, (i < 1 ∨ 11 < i) → P i = M i) ∧ zTv P 1 wT0 ∧ zTp wT0 := by
  obtain ⟨A, a1, a2, a3⟩ := s32E h63
  have c0 : wCl 0 = 0 := rfl
  obtain ⟨B, b1, b2, b3, b4⟩ := s47E (a := wa1) (x := 15) (y := 30) a3 wCl_p rfl (by decide) rfl rfl
  obtain ⟨C, c1, c2, c3, c4⟩ := s47E (a := wa1) (x := 15) (y := 30) b3 b4 rfl (by decide) rfl rfl
  obtain ⟨D, d1, d2, d3, d4⟩ := s47E (a := wa2) (x := 20) (y := 25) c3 c4 rfl (by decide) rfl rfl
  have e : (wup1 (wup1 (wup1 (wup1 (wup1 (wup1 (wup1 (wup1 (wup1 wCl 0 (wCl 0 + 1)) (16 + wCl 0) (wa1 0)) (28 + wCl 0) (wa1 1)) 0 (wup1 (wup1 (wup1 wCl 0 (wCl 0 + 1)) (16 + wCl 0) (wa1 0)) (28 + wCl 0) (wa1 1) 0 + 1)) (16 + wup1 (wup1 (wup1 wCl 0 (wCl 0 + 1)) (16 + wCl 0) (wa1 0)) (28 + wCl 0) (wa1 1) 0) (wa1 0)) (28 + wup1 (wup1 (wup1 wCl 0 (wCl 0 + 1)) (16 + wCl 0) (wa1 0)) (28 + wCl 0) (wa1 1) 0) (wa1 1)) 0 3) 18 20) 30 25) = wT0 := wT0_eq
  have d3' : zTv D 1 wT0 := by rw [← wT0_eq]; exact d3
  have d4' : zTp wT0 := by rw [← wT0_eq]; exact d4
  refine ⟨D, zbeg D 0, ?_, rfl, fun i hi => by rw [d2 i hi, c2 i hi, b2 i hi, a2 i hi], d3', d4'⟩
  rw [e232E_201, a1, zbV_some, b1, zbI_some, c1, zbI_some, d1, zbI_some, s95E, zbV_some]
theorem s141b_l : ∀ d k, d + k = 116 → zden (L + 1) 141 2 [some (.ref 49), some (.int (nI k))] [] (zfl M 49 k 0) = some (none, zput (zput (zput (zput (zput (zput (zput (zput (zput (zput (zput (zfl M 49 116 0) 49 4 20) 49 5 20) 49 6 30) 49 8 10) 49 9 30) 49 10 20) 49 11 40) 49 12 20) 49 13 20) 49 14 60) 49 15 9) := by
  intro d
  induction d with
  | zero =>
    intro k hk
    have e : k = 116 := by omega
    subst e
    rw [e141_49_2, if_neg (by decide)]
  | succ d ih =>
    intro k hk
    rw [e141_49_2, if_pos (show nI k < 116 from nI_lt (b := 116) (by omega) (by omega)), if_pos ((zinb_nI (by omega)).mpr (by omega)), nI_clamp (by omega), zfl_s, nI_1]
    exact ih (k + 1) (by omega)
theorem s141b : ∃ P, zden (L + 1) 141 0 [some (.ref 49), none] [] M = some (none, P) ∧ (∀ i, i ≠ 49 → P i = M i) ∧ zTm P 49 wCl := by
  have h := s141b_l (L := L) (M := M) 116 0 (by omega)
  rw [zfl_0, nI_0] at h
  refine ⟨_, by rw [e141_49_0]; exact h, fun i hi => ?_, ?_⟩
  · rw [zput_ne hi, zput_ne hi, zput_ne hi, zput_ne hi, zput_ne hi, zput_ne hi, zput_ne hi, zput_ne hi, zput_ne hi, zput_ne hi, zput_ne hi, zfl_row M hi]
  · have h0 : zTm (zfl M 49 116 0) 49 (fun _ => 0) := fun j hj => by rw [zfl_in _ hj]; rfl
    exact zTm_put (x := 9) (zTm_put (x := 60) (zTm_put (x := 20) (zTm_put (x := 20) (zTm_put (x := 40) (zTm_put (x := 20) (zTm_put (x := 30) (zTm_put (x := 10) (zTm_put (x := 30) (zTm_put (x := 20) (zTm_put (x := 20) h0))))))))))
/-- the second object as its making leaves it -/
theorem z_new2 (o1 : Option Value) : ∃ P C, zden (L + 1) 233 109 [some (.ref 48), o1] [] M = some (none, C) ∧ C = zbegM P 0 ∧ (∀ i, i ≠ 49 → P i = M i) ∧ zTm P 49 wT0 := by
  obtain ⟨A, a1, a2, a3⟩ := s141b (L := L) (M := M)
  have r : ∀ (P : zM) (k x y : Nat) (u w : Int32), k < 3 → u = nI x → w = nI y → (if k < 2 then x = 15 ∧ y = 30 else x = 20 ∧ y = 25) → zden (L + 1) 233 125 [some (.ref 48), some (.int (nI k))] [] P = zden (L + 1) 233 125 [some (.ref 48), some (.int (nI (k + 1)))] [] (zput (zput P 49 (16 + k) (nI x)) 49 (28 + k) (nI y)) := by
    intro P k x y u w hk hu hw hxy
    rw [e233_125, if_pos (show nI k < 3 from nI_lt (b := 3) hk (by omega))]
    by_cases h2 : k < 2
    · rw [if_pos h2] at hxy
      rw [if_pos (show nI k < 2 from nI_lt (b := 2) h2 (by omega)), show (16 : Int32) + nI k = nI (16 + k) from nI_add 16 k, e233_150, if_pos ((zinb_nI (by omega)).mpr (by omega)), if_pos (show nI k < 2 from nI_lt (b := 2) h2 (by omega)), nI_clamp (by omega), show (28 : Int32) + nI k = nI (28 + k) from nI_add 28 k, e233_171, if_pos ((zinb_nI (by omega)).mpr (by omega)), nI_clamp (by omega), nI_1, hxy.1, hxy.2]
      rfl
    · rw [if_neg h2] at hxy
      rw [if_neg (show ¬ nI k < 2 from nI_nlt (b := 2) (by omega) (by omega)), show (16 : Int32) + nI k = nI (16 + k) from nI_add 16 k, e233_150, if_pos ((zinb_nI (by omega)).mpr (by omega)), if_neg (show ¬ nI k < 2 from nI_nlt (b := 2) (by omega) (by omega)), nI_clamp (by omega), show (28 : Int32) + nI k = nI (28 + k) from nI_add 28 k, e233_171, if_pos ((zinb_nI (by omega)).mpr (by omega)), nI_clamp (by omega), nI_1, hxy.1, hxy.2]
      rfl
  have hT : zTm (zput (zput (zput (zput (zput (zput (zput A 49 0 (nI 3)) 49 (16 + 0) (nI 15)) 49 (28 + 0) (nI 30)) 49 (16 + 1) (nI 15)) 49 (28 + 1) (nI 30)) 49 (16 + 2) (nI 20)) 49 (28 + 2) (nI 25)) 49 wT0 := zTm_put (zTm_put (zTm_put (zTm_put (zTm_put (zTm_put (zTm_put a3))))))
  refine ⟨_, _, ?_, rfl, ?_, hT⟩
  · rw [e233_109, a1, zbV_some, show (0 : Int32) = nI 0 from rfl, show (3 : Int32) = nI 3 from rfl, r _ 0 15 30 15 30 (by omega) rfl rfl (by decide), r _ (0 + 1) 15 30 15 30 (by omega) rfl rfl (by decide), r _ (0 + 1 + 1) 20 25 20 25 (by omega) rfl rfl (by decide), e233_125, if_neg (by decide), show (0 : Int32) = nI 0 from rfl]
    rw [nI_0, s142, zbV_some]
  · intro i hi
    rw [zput_ne hi, zput_ne hi, zput_ne hi, zput_ne hi, zput_ne hi, zput_ne hi, zput_ne hi, a2 i hi]
/-- both made: they tell of the same -/
theorem z_both {P C Q F : zM} (hC : C = zbeg P 0) (hv : zTv P 1 wT0) (hp : zTp wT0) (h23 : P 23 1 = 0) (h43 : P 43 0 = 8 ∧ P 43 1 = 6) (h45 : P 45 0 = 2 ∧ P 45 1 = 8 ∧ P 45 3 = 0) (hF : F = zbegM Q 0) (hm : zTm Q 49 wT0) (hQ : ∀ i, i < 48 → Q i = C i) (h48 : Q 48 3 = 0 ∧ Q 48 10 = 0) : zRel F := by
  have hFo : ∀ i, i < 48 → F i = C i := fun i hi => by rw [hF, zbegM_o (by omega) (by omega), hQ i hi]
  have hCo : ∀ i, i ≠ 0 → i ≠ 40 → i ≠ 43 → C i = P i := fun i h1 h2 h3 => by rw [hC, zbeg_o h1 h2 h3]
  have h1t : wT0 0 = 3 := rfl
  have hb : zTb wT0 := zTp_b hp (by rw [h1t]; omega)
  have hcP : zTc P 1 wT0 := zTv_tc hp hv
  have c43 : ∀ j, C 43 j = if j = 3 then 0 else P 43 j := by
    intro j
    rw [hC]
    unfold zbeg
    by_cases h : j = 3
    · rw [if_pos h, h, zput_at]
    · rw [if_neg h, zput_o _ _ (Or.inr h), zput_ne (by omega), zput_ne (by omega), zput_ne (by omega), zfl_row P (by omega)]
  have c15 : C 0 15 = 0 := by
    rw [hC]
    unfold zbeg
    rw [zput_ne (by omega), zput_at]
  have p47 : P 4 7 = nI 40 := hcP.2.1 7 (by omega)
  have c40 : ∀ j, j < 6 → C 40 j = nI (if j = 2 then 40 else 0) := by
    intro j hj
    rw [hC]
    unfold zbeg
    rw [zput_ne (by omega), zput_ne (by omega), p47]
    by_cases h2 : j = 2
    · rw [h2, zput_at]; rfl
    · rw [zput_o _ _ (Or.inr h2), if_neg h2]
      by_cases h1 : j = 1
      · rw [h1, zput_at]; rfl
      · rw [zput_o _ _ (Or.inr h1), zfl_in _ hj]; rfl
  have f52 : ∀ j, j < 6 → F 52 j = nI (if j = 2 then 40 else 0) := by
    intro j hj
    rw [hF]
    unfold zbegM
    rw [zput_ne (by omega), zput_ne (by omega), hm 11 (by omega)]
    by_cases h2 : j = 2
    · rw [h2, zput_at]; rfl
    · rw [zput_o _ _ (Or.inr h2), if_neg h2]
      by_cases h1 : j = 1
      · rw [h1, zput_at]; rfl
      · rw [zput_o _ _ (Or.inr h1), zfl_in _ hj]; rfl
  have f48 : ∀ j, F 48 j = if j = 6 ∨ j = 8 then 0 else Q 48 j := fun j => by rw [hF, zbegM_48]
  refine ⟨wT0, hb, ?_, ?_, zTx_0 ?_ ?_, ⟨⟨fun j => if j = 2 then 40 else 0, fun j hj => ?_, ?_, ?_, ?_, ?_, ?_⟩, fun j hj => ?_⟩, ⟨?_, ?_, ?_, ?_⟩, zPs_0 ?_ ?_, zTd_0 ?_ ?_, zKp_0 ?_ ?_⟩
  · exact zTc_c hcP (by rw [hFo 1 (by omega), hCo 1 (by omega) (by omega) (by omega)]) (fun k h1 h2 => by rw [hFo (1 + k) (by omega), hCo (1 + k) (by omega) (by omega) (by omega)])
  · intro j hj
    rw [hF, zbegM_o (by omega) (by omega)]
    exact hm j hj
  · rw [hFo 23 (by omega), hCo 23 (by omega) (by omega) (by omega), h23]
  · rw [f48, if_neg (by omega), h48.1]
  · rw [Nat.zero_add]; exact f52 j hj
  · decide
  · decide
  · decide
  · decide
  · decide
  · rw [hFo 40 (by omega), c40 j hj, f52 j hj]
  · rw [hFo 43 (by omega), c43, if_neg (by omega), h43.1]
  · rw [hFo 43 (by omega), c43, if_neg (by omega), h43.2]
  · rw [hFo 45 (by omega), hCo 45 (by omega) (by omega) (by omega), h45.1]
  · rw [hFo 45 (by omega), hCo 45 (by omega) (by omega) (by omega), h45.2.1]
  · rw [hFo 43 (by omega), c43, if_pos rfl]
  · rw [f48, if_pos (Or.inl rfl)]
  · rw [hFo 0 (by omega), c15]
  · rw [f48, if_pos (Or.inr rfl)]
  · rw [hFo 45 (by omega), hCo 45 (by omega) (by omega) (by omega), h45.2.2]
  · rw [f48, if_neg (by omega), h48.2]
end KN
