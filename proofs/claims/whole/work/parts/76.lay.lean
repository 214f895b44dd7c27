theorem zbeg_c {A B : zM} {d : Int32} {i : Nat} (h : A i = B i) (h4 : A 4 7 = B 4 7) : zbeg A d i = zbeg B d i := by
  funext j
  unfold zbeg
  simp only [zput, zfl, h, h4]
theorem zbegM_c {A B : zM} {d : Int32} {i : Nat} (h : A i = B i) (h4 : A 49 11 = B 49 11) : zbegM A d i = zbegM B d i := by
  funext j
  unfold zbegM
  simp only [zput, zfl, h, h4]
theorem zbeg_o {A : zM} {d : Int32} {i : Nat} (h0 : i ≠ 0) (h40 : i ≠ 40) (h43 : i ≠ 43) : zbeg A d i = A i := by
  unfold zbeg
  rw [zput_ne h43, zput_ne h0, zput_ne h40, zput_ne h40, zfl_row A h40]
theorem zbegM_o {A : zM} {d : Int32} {i : Nat} (h48 : i ≠ 48) (h52 : i ≠ 52) : zbegM A d i = A i := by
  unfold zbegM
  rw [zput_ne h48, zput_ne h48, zput_ne h52, zput_ne h52, zfl_row A h52]
theorem zbegM_48 {A : zM} {d : Int32} {j : Nat} : zbegM A d 48 j = if j = 6 ∨ j = 8 then 0 else A 48 j := by
  unfold zbegM
  by_cases h8 : j = 8
  · rw [h8, zput_at, if_pos (Or.inr rfl)]
  · rw [zput_o _ _ (Or.inr h8)]
    by_cases h6 : j = 6
    · rw [h6, zput_at, if_pos (Or.inl rfl)]
    · rw [zput_o _ _ (Or.inr h6), zput_ne (by omega), zput_ne (by omega), zfl_row A (by omega), if_neg (by omega)]
section KP
variable {L : Nat} {ro M : zM} {n : Nat} {X t : Nat → Nat}
theorem s159_l : ∀ d k, d + k = 116 → zden (L + 1) 159 23 [some (.ref 48), some (.int (nI k))] [] (zcp2 M 50 0 49 0 k) = some (some (.int ((zput (zbegM (zcp2 M 50 0 49 0 116) 0) 48 10 0) 49 0)), zput (zbegM (zcp2 M 50 0 49 0 116) 0) 48 10 0) := by
  intro d
  induction d with
  | zero =>
    intro k hk
    have e : k = 116 := by omega
    subst e
    rw [e159_23, if_neg (by decide), s142, zbV_some]
  | succ d ih =>
    intro k hk
    have hs := zcp2_s M (a := 50) (i := 0) (b := 49) (j := 0) (n := k) (by omega)
    rw [Nat.zero_add] at hs
    rw [e159_23, if_pos (show nI k < 116 from nI_lt (b := 116) (by omega) (by omega)), if_pos ((zinb_nI (by omega)).mpr (by omega)), if_pos ((zinb_nI (by omega)).mpr (by omega)), nI_clamp (by omega), zcp2_a M (by omega), hs, nI_1]
    exact ih (k + 1) (by omega)
theorem zscr_12 {i : Nat} (h1 : zscr i = false) : i < 12 ∨ 22 < i := by
  have hnot : ¬ (12 ≤ i ∧ i ≤ 22) := fun q => by
    have : zscr i = true := by unfold zscr; simp [q.1, q.2]
    rw [this] at h1; cases h1
  omega
theorem k_lay (hk : zRo ro) (hR : zRel M) (hro : ∀ i, zNW ≤ i → M i = ro i) : zSame L ro 99 159 [some (.ref 0)] [some (.ref 48), none] M := by
  obtain ⟨t, hb, hc, hm, htx, hnw, hfx, hps, htd, hkp⟩ := id hR
  have hkM := zRo_of hk hro
  obtain ⟨n, X, hX, hC, hT⟩ := wTx_of htx
  obtain ⟨P, p1, p2, p3, p4⟩ := s56_12 (L := L) hX hC hkM
  have h122 : P 12 2 = nI ((wRe X n).2 0) := p3.1 0 (by unfold wlv; omega)
  have h12 := p4.1.1
  by_cases hok : (wRe X n).1 = -4 ∧ 1 ≤ (wRe X n).2 0
  · -- laid
    have hCP : wTc P n X := ⟨by rw [p2 23 (by omega) (by omega)]; exact hC.1, fun j hj => by rw [p2 24 (by omega) (by omega)]; exact hC.2 j hj⟩
    have hkP : zRo P := zRo_of hkM fun i hi => p2 i (zn62 hi (by omega)) (Or.inr (by have : zNW = 62 := rfl; omega))
    obtain ⟨A, a1, a2, a3, a4⟩ := s56_1 (L := L) hX hCP hkP
    have hAo : ∀ i, i ≠ 25 → (i < 1 ∨ 11 < i) → (i < 12 ∨ 22 < i) → A i = M i := fun i h1 h2 h3 => by rw [a2 i h1 h2, p2 i h1 h3]
    -- the component's end
    have hB : zden (L + 1) 99 0 [some (.ref 0)] [] M = some (some (.int (zbeg (zput A 45 3 0) 0 1 2)), zbeg (zput A 45 3 0) 0) := by
      rw [e99_0, p1, zbI_some, if_pos hok.1, h122, if_neg (show ¬ nI ((wRe X n).2 0) < 1 from nI_nlt (b := 1) (by omega) (by omega)), a1, zbI_some, e14_45_0, zbV_some, s95, zbV_some, if_pos rfl]
    have hB1 : zbeg (zput A 45 3 0) 0 1 = A 1 := by rw [zbeg_o (by omega) (by omega) (by omega), zput_ne (by omega)]
    have hBo : ∀ i, i ≠ 0 → i ≠ 40 → i ≠ 43 → i ≠ 45 → zbeg (zput A 45 3 0) 0 i = A i := fun i h1 h2 h3 h4 => by rw [zbeg_o h1 h2 h3, zput_ne h4]
    have hTB : wTm (zbeg (zput A 45 3 0) 0) n X := ⟨by rw [hBo 48 (by omega) (by omega) (by omega) (by omega), hAo 48 (by omega) (by omega) (by omega)]; exact hT.1, fun j hj => by rw [hBo 51 (by omega) (by omega) (by omega) (by omega), hAo 51 (by omega) (by omega) (by omega)]; exact hT.2 j hj⟩
    obtain ⟨Q, q1, q2, q3⟩ := s157 (L := L) hX hTB
    have h50 : Q 50 0 = nI ((wRe X n).2 0) := q3 0 (by omega)
    have hl := s159_l (L := L) (M := Q) 116 0 (by omega)
    rw [zcp2_0, nI_0] at hl
    have hcpo : ∀ i, i ≠ 49 → zcp2 Q 50 0 49 0 116 i = Q i := fun i hi => zcp2_row Q hi
    have hcp49 : ∀ j, j < 116 → zcp2 Q 50 0 49 0 116 49 j = nI ((wRe X n).2 j) := fun j hj => by
      rw [zcp2_in Q (by omega) (by omega), show 0 + (j - 0) = j by omega, q3 j hj]
    refine ⟨nI ((wRe X n).2 0), zbeg (zput A 45 3 0) 0, zput (zbegM (zcp2 Q 50 0 49 0 116) 0) 48 10 0, ?_, ?_, ?_, ?_⟩
    · rw [hB, hB1, show A 1 2 = nI ((wRe X n).2 0) from a3.1 0 (by unfold wlv; omega)]
    · rw [e159_0, q1, zbI_some, if_pos hok.1, h50, if_neg (nI_ne0 (by omega) (by omega)), hl, zput_ne (show 49 ≠ 48 by omega), zbegM_o (by omega) (by omega), hcp49 0 (by omega)]
    · -- both alike: N is what stands before both begin
      have hN : zRel (zbegM (zbeg (fun i => if i = 49 then zcp2 Q 50 0 49 0 116 49 else if i = 48 then (fun j => if j = 10 then 0 else M 48 j) else zput A 45 3 0 i) (nI 0)) (nI 0)) := by
        refine zbeg_rel (t := (wRe X n).2) 0 (by omega) (zTp_b p4 hok.2) ?_ ?_ ?_ ?_ ?_
        · refine zTc_c (zTv_tc p4 a3) ?_ ?_
          · show (if (1 : Nat) = 49 then _ else if (1 : Nat) = 48 then _ else zput A 45 3 0 1) = A 1
            rw [if_neg (by omega), if_neg (by omega), zput_ne (by omega)]
          · intro k h1 h2
            show (if 1 + k = 49 then _ else if 1 + k = 48 then _ else zput A 45 3 0 (1 + k)) = A (1 + k)
            rw [if_neg (by omega), if_neg (by omega), zput_ne (by omega)]
        · intro j hj
          show (if (49 : Nat) = 49 then zcp2 Q 50 0 49 0 116 49 else _) j = _
          rw [if_pos rfl]
          exact hcp49 j hj
        · refine zTx_c htx ?_ ?_ ?_ ?_
          · show (if (23 : Nat) = 49 then _ else if (23 : Nat) = 48 then _ else zput A 45 3 0 23) 1 = M 23 1
            rw [if_neg (by omega), if_neg (by omega), zput_ne (by omega), hAo 23 (by omega) (by omega) (by omega)]
          · rfl
          · show (if (24 : Nat) = 49 then _ else if (24 : Nat) = 48 then _ else zput A 45 3 0 24) = M 24
            rw [if_neg (by omega), if_neg (by omega), zput_ne (by omega), hAo 24 (by omega) (by omega) (by omega)]
          · show (if (51 : Nat) = 49 then _ else if (51 : Nat) = 48 then _ else zput A 45 3 0 51) = M 51
            rw [if_neg (by omega), if_neg (by omega), zput_ne (by omega), hAo 51 (by omega) (by omega) (by omega)]
        · have h43 : (fun i => if i = 49 then zcp2 Q 50 0 49 0 116 49 else if i = 48 then (fun j => if j = 10 then 0 else M 48 j) else zput A 45 3 0 i) 43 = M 43 := by
            show (if (43 : Nat) = 49 then _ else if (43 : Nat) = 48 then _ else zput A 45 3 0 43) = M 43
            rw [if_neg (by omega), if_neg (by omega), zput_ne (by omega), hAo 43 (by omega) (by omega) (by omega)]
          have h45 : ∀ j, j ≠ 3 → (fun i => if i = 49 then zcp2 Q 50 0 49 0 116 49 else if i = 48 then (fun j => if j = 10 then 0 else M 48 j) else zput A 45 3 0 i) 45 j = M 45 j := by
            intro j hj
            show (if (45 : Nat) = 49 then _ else if (45 : Nat) = 48 then _ else zput A 45 3 0 45) j = M 45 j
            rw [if_neg (by omega), if_neg (by omega), zput_o _ _ (Or.inr hj), hAo 45 (by omega) (by omega) (by omega)]
          exact zFx_c hfx (congrFun h43 0) (congrFun h43 1) (h45 0 (by omega)) (h45 1 (by omega))
        · refine zKp_0 ?_ ?_
          · show (if (45 : Nat) = 49 then _ else if (45 : Nat) = 48 then _ else zput A 45 3 0 45) 3 = 0
            rw [if_neg (by omega), if_neg (by omega), zput_at]
          · rfl
      refine zRel_s hN (fun i h1 h2 => ?_) (fun j hj => ?_)
      · rw [zput_ne h2]
        by_cases h52 : i = 52
        · subst h52
          refine (zbegM_c ?_ ?_)
          · rw [hcpo 52 (by omega), q2.1 52 (by omega) (by omega) (by omega), hBo 52 (by omega) (by omega) (by omega) (by omega), zbeg_o (by omega) (by omega) (by omega)]
            show A 52 = (if (52 : Nat) = 49 then _ else if (52 : Nat) = 48 then _ else zput A 45 3 0 52)
            rw [if_neg (by omega), if_neg (by omega), zput_ne (by omega)]
          · rw [zbeg_o (by omega) (by omega) (by omega)]
            rfl
        · rw [zbegM_o h2 h52, zbegM_o h2 h52]
          by_cases h49 : i = 49
          · subst h49
            rw [zbeg_o (by omega) (by omega) (by omega)]
            rfl
          · rw [hcpo i h49, q2.1 i h2 (zscr_ne h1 (by decide)) (zscr_ne h1 (by decide))]
            refine zbeg_c ?_ ?_
            · show zput A 45 3 0 i = (if i = 49 then _ else if i = 48 then _ else zput A 45 3 0 i)
              rw [if_neg h49, if_neg h2]
            · rfl
      · rw [zbegM_48]
        by_cases h10 : j = 10
        · subst h10
          rw [zput_at, if_neg (by omega), zbeg_o (by omega) (by omega) (by omega)]
          rfl
        · rw [zput_o _ _ (Or.inr h10), zbegM_48]
          by_cases h68 : j = 6 ∨ j = 8
          · rw [if_pos h68, if_pos h68]
          · rw [if_neg h68, if_neg h68, hcpo 48 (by omega), q2.2 j hj, hBo 48 (by omega) (by omega) (by omega) (by omega), hAo 48 (by omega) (by omega) (by omega), zbeg_o (by omega) (by omega) (by omega)]
            show M 48 j = (if (48 : Nat) = 49 then _ else if (48 : Nat) = 48 then (fun j => if j = 10 then 0 else M 48 j) else zput A 45 3 0 48) j
            rw [if_neg (by omega), if_pos rfl, if_neg h10]
    · intro i hi
      have h62 : 62 ≤ i := hi
      rw [zput_ne (by omega), zbegM_o (by omega) (by omega), hcpo i (by omega), q2.1 i (by omega) (by omega) (by omega), hBo i (by omega) (by omega) (by omega) (by omega), hAo i (by omega) (by omega) (by omega), hro i hi]
  · -- refused
    have hTP : wTm P n X := ⟨by rw [p2 48 (by omega) (by omega)]; exact hT.1, fun j hj => by rw [p2 51 (by omega) (by omega)]; exact hT.2 j hj⟩
    obtain ⟨Q, q1, q2, q3⟩ := s157 (L := L) hX hTP
    have h50 : Q 50 0 = nI ((wRe X n).2 0) := q3 0 (by omega)
    refine ⟨-2, P, Q, ?_, ?_, ?_, fun i hi => ?_⟩
    · rw [e99_0, p1, zbI_some]
      by_cases h4 : (wRe X n).1 = -4
      · have hz : ¬ 1 ≤ (wRe X n).2 0 := fun q => hok ⟨h4, q⟩
        rw [if_pos h4, h122, if_pos (show nI ((wRe X n).2 0) < 1 from nI_lt (b := 1) (by omega) (by omega)), e99_27]
      · rw [if_neg h4, e99_27]
    · rw [e159_0, q1, zbI_some]
      by_cases h4 : (wRe X n).1 = -4
      · have hz : ¬ 1 ≤ (wRe X n).2 0 := fun q => hok ⟨h4, q⟩
        rw [if_pos h4, h50, if_pos (show nI ((wRe X n).2 0) = 0 by rw [show (wRe X n).2 0 = 0 by omega]; rfl), e159_18]
      · rw [if_neg h4, e159_18]
    · refine zRel_s hR (fun i h1 h2 => ?_) (fun j hj => by rw [q2.2 j hj, p2 48 (by omega) (by omega)])
      rw [q2.1 i h2 (zscr_ne h1 (by decide)) (zscr_ne h1 (by decide)), p2 i (zscr_ne h1 (by decide)) (zscr_12 h1)]
    · have h62 : 62 ≤ i := hi
      rw [q2.1 i (by omega) (by omega) (by omega), p2 i (by omega) (by omega), hro i hi]
end KP
