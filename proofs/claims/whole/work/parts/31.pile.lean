section KP
variable {L : Nat} {ro M : zM}
theorem s17a_l {m : Nat} (hm : m ≤ 7) (h1 : M 43 1 = 6) (h3 : M 43 3 = nI m) : ∀ d k, d + k = 6 → zden (L + 1) 17 21 [some (.ref 43), some (.ref 40), some (.int (nI k))] [] (zcp2 M 44 (6 * m) 40 0 k) = some (some (.int 1), zcp2 M 44 (6 * m) 40 0 6) := by
  have r1 : ∀ k, zcp2 M 44 (6 * m) 40 0 k 43 1 = 6 := fun k => by rw [zcp2_row M (by decide)]; exact h1
  have r3 : ∀ k, zcp2 M 44 (6 * m) 40 0 k 43 3 = nI m := fun k => by rw [zcp2_row M (by decide)]; exact h3
  intro d
  induction d with
  | zero =>
    intro k hk
    have : k = 6 := by omega
    subst this
    rw [e17_43_40_21, r1, if_neg (by decide)]
  | succ d ih =>
    intro k hk
    rw [e17_43_40_21, r1, r3, if_pos (zlt_6 (by omega)), show (6 : Int32) = nI 6 from rfl, nI_mul, nI_add, s4_44, zbI_some, zrd_nI (by omega), if_pos (by omega), s5_40, zbV_some, zwr_nI (by omega) (by omega), zcp2_a M (by decide), nI_1, show m * 6 + k = 6 * m + k by omega]
    have hs := zcp2_s M (a := 44) (i := 6 * m) (b := 40) (j := 0) (n := k) (by decide)
    rw [Nat.zero_add] at hs
    rw [hs]
    exact ih (k + 1) (by omega)
theorem s17a {m : Nat} (hm : m ≤ 7) (h1 : M 43 1 = 6) (h3 : M 43 3 = nI (m + 1)) : zden (L + 1) 17 0 [some (.ref 43), some (.ref 40), none] [] M = some (some (.int 1), zcp2 (zput M 43 3 (nI m)) 44 (6 * m) 40 0 6) := by
  rw [e17_43_40_0, h3, if_pos (show (0 : Int32) < nI (m + 1) from nI_lt (a := 0) (by omega) (by omega)), nI_pred]
  have := s17a_l (L := L) (M := zput M 43 3 (nI m)) hm (by simp [zput, h1]) (by simp [zput]) 6 0 (by omega)
  rw [zcp2_0] at this
  exact this
theorem s17a0 (h3 : M 43 3 = 0) : zden (L + 1) 17 0 [some (.ref 43), some (.ref 40), none] [] M = some (some (.int 0), M) := by
  rw [e17_43_40_0, h3, if_neg (by decide)]
theorem s17b_l {m : Nat} (hm : m ≤ 1) (h1 : M 45 1 = 8) (h3 : M 45 3 = nI m) : ∀ d k, d + k = 8 → zden (L + 1) 17 21 [some (.ref 45), some (.ref 42), some (.int (nI k))] [] (zcp2 M 46 (8 * m) 42 0 k) = some (some (.int 1), zcp2 M 46 (8 * m) 42 0 8) := by
  have r1 : ∀ k, zcp2 M 46 (8 * m) 42 0 k 45 1 = 8 := fun k => by rw [zcp2_row M (by decide)]; exact h1
  have r3 : ∀ k, zcp2 M 46 (8 * m) 42 0 k 45 3 = nI m := fun k => by rw [zcp2_row M (by decide)]; exact h3
  intro d
  induction d with
  | zero =>
    intro k hk
    have : k = 8 := by omega
    subst this
    rw [e17_45_42_21, r1, if_neg (by decide)]
  | succ d ih =>
    intro k hk
    rw [e17_45_42_21, r1, r3, if_pos (zlt_8 (by omega)), show (8 : Int32) = nI 8 from rfl, nI_mul, nI_add, s4_46, zbI_some, zrd_nI (by omega), if_pos (by omega), s5_42, zbV_some, zwr_nI (by omega) (by omega), zcp2_a M (by decide), nI_1, show m * 8 + k = 8 * m + k by omega]
    have hs := zcp2_s M (a := 46) (i := 8 * m) (b := 42) (j := 0) (n := k) (by decide)
    rw [Nat.zero_add] at hs
    rw [hs]
    exact ih (k + 1) (by omega)
theorem s17b {m : Nat} (hm : m ≤ 1) (h1 : M 45 1 = 8) (h3 : M 45 3 = nI (m + 1)) : zden (L + 1) 17 0 [some (.ref 45), some (.ref 42), none] [] M = some (some (.int 1), zcp2 (zput M 45 3 (nI m)) 46 (8 * m) 42 0 8) := by
  rw [e17_45_42_0, h3, if_pos (show (0 : Int32) < nI (m + 1) from nI_lt (a := 0) (by omega) (by omega)), nI_pred]
  have := s17b_l (L := L) (M := zput M 45 3 (nI m)) hm (by simp [zput, h1]) (by simp [zput]) 8 0 (by omega)
  rw [zcp2_0] at this
  exact this
theorem s17b0 (h3 : M 45 3 = 0) : zden (L + 1) 17 0 [some (.ref 45), some (.ref 42), none] [] M = some (some (.int 0), M) := by
  rw [e17_45_42_0, h3, if_neg (by decide)]
theorem s16b_l {m : Nat} (hm : m ≤ 1) (h1 : M 45 1 = 8) (h3 : M 45 3 = nI m) : ∀ d k, d + k = 8 → zden (L + 1) 16 17 [some (.ref 45), some (.ref 42), some (.int (nI k))] [] (zcp2 M 42 0 46 (8 * m) k) = some (none, zput (zcp2 M 42 0 46 (8 * m) 8) 45 3 (nI (m + 1))) := by
  have r1 : ∀ k, zcp2 M 42 0 46 (8 * m) k 45 1 = 8 := fun k => by rw [zcp2_row M (by decide)]; exact h1
  have r3 : ∀ k, zcp2 M 42 0 46 (8 * m) k 45 3 = nI m := fun k => by rw [zcp2_row M (by decide)]; exact h3
  intro d
  induction d with
  | zero =>
    intro k hk
    have : k = 8 := by omega
    subst this
    rw [e16_45_42_17, r1, r3, if_neg (by decide), nI_1]
  | succ d ih =>
    intro k hk
    rw [e16_45_42_17, r1, r3, if_pos (zlt_8 (by omega)), show (8 : Int32) = nI 8 from rfl, nI_mul, nI_add, s4_42, zbI_some, zrd_nI (by omega), if_pos (by omega), s5_46, zbV_some, zwr_nI (by omega) (by omega), zcp2_a M (by decide), nI_1, show m * 8 + k = 8 * m + k by omega]
    have hs := zcp2_s M (a := 42) (i := 0) (b := 46) (j := 8 * m) (n := k) (by decide)
    rw [Nat.zero_add] at hs
    rw [hs]
    exact ih (k + 1) (by omega)
theorem s16b {m : Nat} (hm : m ≤ 1) (h0 : M 45 0 = 2) (h1 : M 45 1 = 8) (h3 : M 45 3 = nI m) : zden (L + 1) 16 0 [some (.ref 45), some (.ref 42), none] [] M = some (none, zput (zcp2 M 42 0 46 (8 * m) 8) 45 3 (nI (m + 1))) := by
  rw [e16_45_42_0, h3, h0, if_pos (show nI m < 2 from nI_lt (b := 2) (by omega) (by omega)), e16_45_42_15]
  have := s16b_l (L := L) hm h1 h3 8 0 (by omega)
  rw [zcp2_0] at this
  exact this
theorem zcp2_cell {a i b j n x y : Nat} (h : x ≠ b) : zcp2 M a i b j n x y = M x y := by rw [zcp2_row M h]
theorem k_undo (hR : zRel M) (hro : ∀ i, zNW ≤ i → M i = ro i) : zSame L ro 110 184 [some (.ref 0)] [some (.ref 48)] M := by
  obtain ⟨t, hb, hc, hm, htx, hnw, hfx, hps, htd, hkp⟩ := id hR
  obtain ⟨n, hn, p1, p2, p3, p4⟩ := hps
  cases n with
  | zero =>
    refine ⟨-2, M, M, ?_, ?_, hR, hro⟩
    · rw [e110_0, s17a0 p1, zbI_some, if_pos (by decide), e110_26]
    · rw [e184_0, p2, if_pos (by decide)]
  | succ m =>
    refine ⟨nI m, zcp2 (zput M 43 3 (nI m)) 44 (6 * m) 40 0 6, zcp2 (zput (zcp2 (zput M 43 3 (nI m)) 44 (6 * m) 40 0 6) 48 6 (nI m)) 53 (6 * m) 52 0 6, ?_, ?_, ⟨t, hb, zTc_c hc (by simp [zput_row, zcp2_row]) (fun k h1 h2 => by rw [zcp2_row _ (by omega), zput_ne (by omega), zcp2_row _ (by omega), zput_ne (by omega)]), zTm_c hm (by simp [zput_row, zcp2_row]), zTx_c htx (by simp [zput, zcp2]) (by simp [zput, zcp2]) (by simp [zput_row, zcp2_row]) (by simp [zput_row, zcp2_row]), ?_, zFx_c hfx (by simp [zput, zcp2]) (by simp [zput, zcp2]) (by simp [zput, zcp2]) (by simp [zput, zcp2]), ⟨m, by omega, by simp [zput, zcp2], by simp [zput, zcp2], fun i hi => ?_, fun j hj => ?_⟩, zTd_c htd (by simp [zput, zcp2]) (by simp [zput, zcp2]) (by simp [zput_row, zcp2_row]) (by simp [zput_row, zcp2_row]), zKp_c hkp (by simp [zput, zcp2]) (by simp [zput, zcp2]) (by simp [zput_row, zcp2_row]) (by simp [zput_row, zcp2_row])⟩, zro_cp (by decide) (zro_put (by decide) (zro_cp (by decide) (zro_put (by decide) hro)))⟩
    · rw [e110_0, s17a (by omega) hfx.2.1 p1, zbI_some, if_neg (by decide), e110_26, zcp2_cell (by decide), zput_at]
    · have g : zcp2 (zput M 43 3 (nI m)) 44 (6 * m) 40 0 6 48 6 = nI (m + 1) := by rw [zcp2_cell (by decide), zput_o _ _ (Or.inl (by decide)), p2]
      rw [e184_0, g, if_neg (nI_ne0 (by omega) (by omega)), nI_pred, zput_at, show (6 : Int32) = nI 6 from rfl, nI_mul, show (0 : Int32) = nI 0 from rfl, s177_48_53_52 L (i := 6 * m) (j := 0) (by omega) (by omega), zbV_some, zcp2_cell (by decide), zput_at]
    · have h53 : ∀ j, zput (zcp2 (zput M 43 3 (nI m)) 44 (6 * m) 40 0 6) 48 6 (nI m) 53 j = M 53 j := fun j => by rw [zput_o _ _ (Or.inl (by decide)), zcp2_cell (by decide), zput_o _ _ (Or.inl (by decide))]
      refine ⟨?_, fun j hj => ?_⟩
      · obtain ⟨nn, g1, g2⟩ := p3 m (by omega)
        refine ⟨nn, fun j hj => ?_, g2⟩
        rw [Nat.zero_add, zcp2_in _ (by omega) (by omega), h53, Nat.sub_zero]
        exact g1 j hj
      · rw [zcp2_in _ (by omega) (by omega), h53, zcp2_cell (by decide), zput_o _ _ (Or.inl (by decide)), zcp2_in _ (by omega) (by omega), zput_o _ _ (Or.inl (by decide)), Nat.sub_zero]
        exact p4 _ (by omega)
    · have h53 : zcp2 (zput (zcp2 (zput M 43 3 (nI m)) 44 (6 * m) 40 0 6) 48 6 (nI m)) 53 (6 * m) 52 0 6 53 = M 53 := by rw [zcp2_row _ (by decide), zput_ne (by decide), zcp2_row _ (by decide), zput_ne (by decide)]
      rw [h53]
      exact p3 i (by omega)
    · rw [zcp2_cell (by decide), zput_o _ _ (Or.inl (by decide)), zcp2_cell (by decide), zput_o _ _ (Or.inl (by decide)), zcp2_cell (by decide), zput_o _ _ (Or.inl (by decide)), zcp2_cell (by decide), zput_o _ _ (Or.inl (by decide))]
      exact p4 j (by omega)
end KP
