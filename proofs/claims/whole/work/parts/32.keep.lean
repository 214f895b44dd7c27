section KK
variable {L : Nat} {ro M : zM}
theorem k_keep (hR : zRel M) (hro : ∀ i, zNW ≤ i → M i = ro i) : zSame L ro 138 228 [some (.ref 0)] [some (.ref 48)] M := by
  obtain ⟨t, hb, hc, hm, htx, hnw, hfx, hps, htd, hkp⟩ := id hR
  obtain ⟨n, hn, q1, q2, q3, q4⟩ := hkp
  by_cases h2 : n < 2
  · have e3 : M 4 3 = nI (t 7) := hc.2.1 3 (by omega)
    have e14 : M 1 14 = nI (zbits (fun q => t (79 + q)) (t 2)) := hc.1.2.2.2.2
    have m7 : M 49 7 = nI (t 7) := hm 7 (by omega)
    obtain ⟨B, hB⟩ : ∃ B, B = zbits (fun q => t (79 + q)) (t 2) := ⟨_, rfl⟩
    rw [← hB] at e14
    obtain ⟨Ma, hMa⟩ : ∃ Ma, Ma = zput (zput (zcp2 M 40 0 42 0 6) 42 6 (nI (t 7))) 42 7 (nI B) := ⟨_, rfl⟩
    obtain ⟨M1, hM1⟩ : ∃ M1, M1 = zput (zcp2 Ma 42 0 46 (8 * n) 8) 45 3 (nI (n + 1)) := ⟨_, rfl⟩
    have a42 : ∀ j, j < 8 → Ma 42 j = if j < 6 then M 40 j else if j = 6 then nI (t 7) else nI B := by
      intro j hj
      rw [hMa]
      match j, hj with
      | 0, _ => simp [zput, zcp2]
      | 1, _ => simp [zput, zcp2]
      | 2, _ => simp [zput, zcp2]
      | 3, _ => simp [zput, zcp2]
      | 4, _ => simp [zput, zcp2]
      | 5, _ => simp [zput, zcp2]
      | 6, _ => simp [zput, zcp2]
      | 7, _ => simp [zput, zcp2]
    have ao : ∀ i, i ≠ 42 → Ma i = M i := fun i hi => by rw [hMa, zput_ne hi, zput_ne hi, zcp2_row M hi]
    have o1 : ∀ i, i ≠ 42 → i ≠ 45 → i ≠ 46 → M1 i = M i := fun i h1 h2 h3 => by rw [hM1, zput_ne h2, zcp2_row _ h3, ao i h1]
    have m45 : ∀ j, j ≠ 3 → M1 45 j = M 45 j := fun j hj => by rw [hM1, zput_o _ _ (Or.inr hj), zcp2_cell (by decide), ao 45 (by decide)]
    have m453 : M1 45 3 = nI (n + 1) := by rw [hM1, zput_at]
    have m46 : ∀ j, M1 46 j = if 8 * n ≤ j ∧ j < 8 * n + 8 then Ma 42 (j - 8 * n) else M 46 j := by
      intro j
      rw [hM1, zput_o _ _ (Or.inl (by decide))]
      by_cases hj : 8 * n ≤ j ∧ j < 8 * n + 8
      · rw [if_pos hj, zcp2_in _ hj.1 hj.2, Nat.zero_add]
      · rw [if_neg hj, zcp2_out _ (fun q => hj q.2), ao 46 (by decide)]
    have comp : zden (L + 1) 138 0 [some (.ref 0)] [] M = some (some (.int (nI (n + 1))), M1) := by
      rw [e138_0, q1, if_pos (show nI n < 2 from nI_lt (b := 2) h2 (by omega)), s31_40_42, zbV_some, s0_3, zbI_some, zcp2_cell (by decide), e3, s5_42, zbV_some, show (6 : Int32) = nI 6 from rfl, zwr_nI (by omega) (by omega), zput_o (i := 42) (a := 1) _ _ (Or.inl (by decide)), zcp2_cell (by decide), e14, s5_42, zbV_some, show (7 : Int32) = nI 7 from rfl, zwr_nI (by omega) (by omega), ← hMa,
        s16b (m := n) (by omega) (by rw [ao 45 (by decide)]; exact hfx.2.2.1) (by rw [ao 45 (by decide)]; exact hfx.2.2.2) (by rw [ao 45 (by decide)]; exact q1), zbV_some, ← hM1, m453]
    obtain ⟨Mb, hMb⟩ : ∃ Mb, Mb = zput (zcp2 M1 52 0 55 (8 * n) 6) 55 (8 * n + 6) (nI (t 7)) := ⟨_, rfl⟩
    have bo : ∀ i, i ≠ 55 → Mb i = M1 i := fun i hi => by rw [hMb, zput_ne hi, zcp2_row _ hi]
    obtain ⟨M2, hM2⟩ : ∃ M2, M2 = zput (zput Mb 55 (8 * n + 7) (nI B)) 48 10 (nI (n + 1)) := ⟨_, rfl⟩
    have o2 : ∀ i, i ≠ 42 → i ≠ 45 → i ≠ 46 → i ≠ 48 → i ≠ 55 → M2 i = M i := fun i h1 h2 h3 h4 h5 => by rw [hM2, zput_ne h4, zput_ne h5, bo i h5, o1 i h1 h2 h3]
    have m48 : ∀ j, j ≠ 10 → M2 48 j = M 48 j := fun j hj => by rw [hM2, zput_o _ _ (Or.inr hj), zput_o _ _ (Or.inl (by decide)), bo 48 (by decide), o1 48 (by decide) (by decide) (by decide)]
    have m4810 : M2 48 10 = nI (n + 1) := by rw [hM2, zput_at]
    have m55 : ∀ j, M2 55 j = if 8 * n ≤ j ∧ j < 8 * n + 6 then M 52 (j - 8 * n) else if j = 8 * n + 6 then nI (t 7) else if j = 8 * n + 7 then nI B else M 55 j := by
      intro j
      have e55 : M1 55 = M 55 := o1 55 (by decide) (by decide) (by decide)
      have e52 : M1 52 = M 52 := o1 52 (by decide) (by decide) (by decide)
      rw [hM2, zput_o _ _ (Or.inl (by decide)), hMb]
      by_cases h7 : j = 8 * n + 7
      · subst h7
        rw [zput_at, if_neg (by omega), if_neg (by omega), if_pos rfl]
      · rw [zput_o _ _ (Or.inr h7)]
        by_cases h6 : j = 8 * n + 6
        · subst h6
          rw [zput_at, if_neg (by omega), if_pos rfl]
        · rw [zput_o _ _ (Or.inr h6), if_neg h6, if_neg h7]
          by_cases hj : 8 * n ≤ j ∧ j < 8 * n + 6
          · rw [if_pos hj, zcp2_in _ hj.1 hj.2, Nat.zero_add, e52]
          · rw [if_neg hj, zcp2_out _ (fun q => hj q.2), e55]
    have g10 : M1 48 10 = nI n := by rw [o1 48 (by decide) (by decide) (by decide)]; exact q2
    have model : zden (L + 1) 228 0 [some (.ref 48)] [] M1 = some (some (.int (nI (n + 1))), M2) := by
      have c10 : zcp2 M1 52 0 55 (8 * n) 6 48 10 = nI n := by rw [zcp2_cell (by decide)]; exact g10
      have c7 : zcp2 M1 52 0 55 (8 * n) 6 49 7 = nI (t 7) := by rw [zcp2_cell (by decide), o1 49 (by decide) (by decide) (by decide)]; exact m7
      have b10 : Mb 48 10 = nI n := by rw [bo 48 (by decide)]; exact g10
      have hmb : zTm Mb 49 t := zTm_c hm (by rw [bo 49 (by decide), o1 49 (by decide) (by decide) (by decide)])
      rw [e228_0, g10, if_neg (fun q => by have := (nI_eq (b := 2) (by omega) (by omega)).mp q; omega), show (8 : Int32) = nI 8 from rfl, nI_mul, show (0 : Int32) = nI 0 from rfl, s177_48_52_55 L (i := 0) (j := 8 * n) (by omega) (by omega), zbV_some, c10, c7, nI_mul, show (6 : Int32) = nI 6 from rfl, nI_add, if_pos ((zinb_nI (by omega)).mpr (by omega)), nI_clamp (by omega), ← hMb, s213 hb hmb, zbI_some, ← hB, b10, nI_mul, show (7 : Int32) = nI 7 from rfl, nI_add, if_pos ((zinb_nI (by omega)).mpr (by omega)), nI_clamp (by omega), zput_at, zput_o (i := 55) (a := 48) _ _ (Or.inl (by decide)), b10, nI_1, ← hM2]
    refine ⟨nI (n + 1), M1, M2, comp, model, ⟨t, hb, zTc_c hc (o2 1 (by decide) (by decide) (by decide) (by decide) (by decide)) (fun k h1 h2 => o2 (1 + k) (by omega) (by omega) (by omega) (by omega) (by omega)), zTm_c hm (o2 49 (by decide) (by decide) (by decide) (by decide) (by decide)), zTx_c htx (by rw [o2 23 (by decide) (by decide) (by decide) (by decide) (by decide)]) (m48 3 (by decide)) (o2 24 (by decide) (by decide) (by decide) (by decide) (by decide)) (o2 51 (by decide) (by decide) (by decide) (by decide) (by decide)), zNw_c hnw (o2 52 (by decide) (by decide) (by decide) (by decide) (by decide)) (o2 40 (by decide) (by decide) (by decide) (by decide) (by decide)), ?_, zPs_c hps (by rw [o2 43 (by decide) (by decide) (by decide) (by decide) (by decide)]) (m48 6 (by decide)) (o2 53 (by decide) (by decide) (by decide) (by decide) (by decide)) (o2 44 (by decide) (by decide) (by decide) (by decide) (by decide)), zTd_c htd (by rw [o2 0 (by decide) (by decide) (by decide) (by decide) (by decide)]) (m48 8 (by decide)) (o2 47 (by decide) (by decide) (by decide) (by decide) (by decide)) (o2 54 (by decide) (by decide) (by decide) (by decide) (by decide)), ?_⟩, fun i hi => ?_⟩
    · have z45 : ∀ j, M2 45 j = M1 45 j := fun j => by rw [hM2, zput_o _ _ (Or.inl (by decide)), zput_o _ _ (Or.inl (by decide)), bo 45 (by decide)]
      exact zFx_c hfx (by rw [o2 43 (by decide) (by decide) (by decide) (by decide) (by decide)]) (by rw [o2 43 (by decide) (by decide) (by decide) (by decide) (by decide)]) (by rw [z45, m45 0 (by decide)]) (by rw [z45, m45 1 (by decide)])
    · have z45 : M2 45 3 = nI (n + 1) := by rw [hM2, zput_o _ _ (Or.inl (by decide)), zput_o _ _ (Or.inl (by decide)), bo 45 (by decide)]; exact m453
      have z46 : ∀ j, M2 46 j = M1 46 j := fun j => by rw [hM2, zput_o _ _ (Or.inl (by decide)), zput_o _ _ (Or.inl (by decide)), bo 46 (by decide)]
      refine ⟨n + 1, by omega, z45, m4810, fun i hi => ?_, fun j hj => ?_⟩
      · by_cases ei : i = n
        · subst ei
          obtain ⟨nn, g1, g2⟩ := hnw.1
          refine ⟨⟨nn, fun j hj => ?_, g2⟩, t 7, fun q => t (79 + q), hb.2.1.2.2.2.2.2.2.1, ?_, fun q hq => (hb.2.2.2.2.2.1 q hq).2, ?_⟩
          · rw [m55, if_pos (by omega), Nat.add_sub_cancel_left]
            have := g1 j hj
            rwa [Nat.zero_add] at this
          · rw [m55, if_neg (by omega), if_pos rfl]
          · rw [m55, if_neg (by omega), if_neg (by omega), if_pos rfl, hB]
        · obtain ⟨⟨nn, g1, g2⟩, b, f, r1, r2, r3, r4⟩ := q3 i (by omega)
          refine ⟨⟨nn, fun j hj => ?_, g2⟩, b, f, r1, ?_, r3, ?_⟩
          · rw [m55, if_neg (by omega), if_neg (by omega), if_neg (by omega)]
            exact g1 j hj
          · rw [m55, if_neg (by omega), if_neg (by omega), if_neg (by omega)]
            exact r2
          · rw [m55, if_neg (by omega), if_neg (by omega), if_neg (by omega)]
            exact r4
      · rw [z46, m46, m55]
        by_cases h8 : 8 * n ≤ j
        · rw [if_pos (show 8 * n ≤ j ∧ j < 8 * n + 8 from ⟨h8, by omega⟩), a42 _ (by omega)]
          by_cases h6 : j < 8 * n + 6
          · rw [if_pos (show j - 8 * n < 6 by omega), if_pos (show 8 * n ≤ j ∧ j < 8 * n + 6 from ⟨h8, h6⟩)]
            exact hnw.2 _ (by omega)
          · rw [if_neg (show ¬ j - 8 * n < 6 by omega), if_neg (show ¬ (8 * n ≤ j ∧ j < 8 * n + 6) by omega)]
            by_cases e6 : j = 8 * n + 6
            · rw [if_pos (show j - 8 * n = 6 by omega), if_pos e6]
            · rw [if_neg (show ¬ j - 8 * n = 6 by omega), if_neg e6, if_pos (show j = 8 * n + 7 by omega)]
        · rw [if_neg (show ¬ (8 * n ≤ j ∧ j < 8 * n + 8) by omega), if_neg (show ¬ (8 * n ≤ j ∧ j < 8 * n + 6) by omega), if_neg (show ¬ j = 8 * n + 6 by omega), if_neg (show ¬ j = 8 * n + 7 by omega)]
          exact q4 j (by omega)
    · have : zNW = 62 := rfl
      rw [o2 i (by omega) (by omega) (by omega) (by omega) (by omega)]
      exact hro i hi
  · have hn2 : n = 2 := by omega
    subst hn2
    refine ⟨-3, M, M, ?_, ?_, hR, hro⟩
    · rw [e138_0, q1, if_neg (by decide)]
    · rw [e228_0, q2, if_pos (by decide)]
end KK
