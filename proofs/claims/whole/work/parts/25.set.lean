section KS
variable {L : Nat} {ro M : zM}
theorem k_wipe (hR : zRel M) (hro : ∀ i, zNW ≤ i → M i = ro i) : zSame L ro 97 145 [some (.ref 0)] [some (.ref 48), none] M := by
  obtain ⟨t, hb, hc, hm, htx, hnw, hfx, hps, htd, hkp⟩ := id hR
  obtain ⟨n, hn, e1, e2, -⟩ := id htx
  refine ⟨nI n, zput M 23 1 0, zput (zput M 23 1 0) 48 3 0, ?_, ?_, ⟨t, hb, zTc_c hc (by simp [zput_row]) (fun k h1 h2 => by rw [zput_ne (by omega), zput_ne (by omega)]), zTm_c hm (by simp [zput_row]), zTx_0 (by simp [zput]) (by simp [zput]), zNw_c hnw (by simp [zput_row]) (by simp [zput_row]), zFx_c hfx (by simp [zput]) (by simp [zput]) (by simp [zput]) (by simp [zput]), zPs_c hps (by simp [zput]) (by simp [zput]) (by simp [zput_row]) (by simp [zput_row]), zTd_c htd (by simp [zput]) (by simp [zput]) (by simp [zput_row]) (by simp [zput_row]), zKp_c hkp (by simp [zput]) (by simp [zput]) (by simp [zput_row]) (by simp [zput_row])⟩, fun i hi => ?_⟩
  · rw [e97_0, e30_0, zbI_some, e1]
  · rw [e145_0, zput_o _ _ (Or.inl (by decide)), e2]
  · rw [zput_ne (by have : zNW = 62 := rfl; omega), zput_ne (by have : zNW = 62 := rfl; omega)]
    exact hro i hi
theorem k_noRow (hR : zRel M) (hro : ∀ i, zNW ≤ i → M i = ro i) : zSame L ro 113 187 [some (.ref 0), none] [some (.ref 48), none] M := by
  obtain ⟨t, hb, hc, hm, htx, hnw, hfx, hps, htd, hkp⟩ := id hR
  obtain ⟨n, hn, e1, e2, -⟩ := id htd
  refine ⟨nI n, zput M 0 15 0, zput (zput M 0 15 0) 48 8 0, ?_, ?_, ⟨t, hb, zTc_c hc (by simp [zput_row]) (fun k h1 h2 => by rw [zput_ne (by omega), zput_ne (by omega)]), zTm_c hm (by simp [zput_row]), zTx_c htx (by simp [zput]) (by simp [zput]) (by simp [zput_row]) (by simp [zput_row]), zNw_c hnw (by simp [zput_row]) (by simp [zput_row]), zFx_c hfx (by simp [zput]) (by simp [zput]) (by simp [zput]) (by simp [zput]), zPs_c hps (by simp [zput]) (by simp [zput]) (by simp [zput_row]) (by simp [zput_row]), zTd_0 (by simp [zput]) (by simp [zput]), zKp_c hkp (by simp [zput]) (by simp [zput]) (by simp [zput_row]) (by simp [zput_row])⟩, fun i hi => ?_⟩
  · rw [e113_0, e1]
  · rw [e187_0, zput_o _ _ (Or.inl (by decide)), e2]
  · rw [zput_ne (by have : zNW = 62 := rfl; omega), zput_ne (by have : zNW = 62 := rfl; omega)]
    exact hro i hi
theorem k_tell (w : Int32) (hR : zRel M) (hro : ∀ i, zNW ≤ i → M i = ro i) : zSame L ro 112 186 [some (.ref 0), some (.int w)] [some (.ref 48), some (.int w)] M := by
  obtain ⟨t, hb, hc, hm, htx, hnw, hfx, hps, htd, hkp⟩ := id hR
  obtain ⟨n, hn, e1, e2, e3⟩ := id htd
  rcases zrng_cases w 0 3 with hw | hw
  · obtain ⟨d, hd, rfl⟩ := zrng_nI (b := 3) (by omega) hw
    by_cases h20 : n < 20
    · have hlt : nI n < 20 := nI_lt (b := 20) h20 (by omega)
      have hne : ¬ nI n = 20 := fun q => by have := (nI_eq (b := 20) (by omega) (by omega)).mp q; omega
      refine ⟨nI (n + 1), zput (zput M 47 n (nI d)) 0 15 (nI (n + 1)), zput (zput (zput (zput M 47 n (nI d)) 0 15 (nI (n + 1))) 54 n (nI d)) 48 8 (nI (n + 1)), ?_, ?_, ⟨t, hb, zTc_c hc (by simp [zput_row]) (fun k h1 h2 => by rw [zput_ne (by omega), zput_ne (by omega), zput_ne (by omega), zput_ne (by omega)]), zTm_c hm (by simp [zput_row]), zTx_c htx (by simp [zput]) (by simp [zput]) (by simp [zput_row]) (by simp [zput_row]), zNw_c hnw (by simp [zput_row]) (by simp [zput_row]), zFx_c hfx (by simp [zput]) (by simp [zput]) (by simp [zput]) (by simp [zput]), zPs_c hps (by simp [zput]) (by simp [zput]) (by simp [zput_row]) (by simp [zput_row]), ⟨n + 1, by omega, by simp [zput], by simp [zput], fun j hj => ?_⟩, zKp_c hkp (by simp [zput]) (by simp [zput]) (by simp [zput_row]) (by simp [zput_row])⟩, fun i hi => ?_⟩
      · rw [e112_0, s46r, zbI_some, hw, if_neg (by decide), e1, if_pos hlt, s5_47, zbV_some, zwr_nI (by omega) (by omega), zput_at, zput_o M _ (Or.inl (by decide)), e1, nI_1]
      · rw [e186_0, s143r L _ 0 3 (by decide) (by decide), zbI_some, hw, if_neg (by decide)]
        have g : zput (zput M 47 n (nI d)) 0 15 (nI (n + 1)) 48 8 = nI n := by rw [zput_o _ _ (Or.inl (by decide)), zput_o _ _ (Or.inl (by decide)), e2]
        rw [g, if_neg hne, if_pos ((zinb_nI (by omega)).mpr (by omega)), zput_at, zput_o (i := 54) _ _ (Or.inl (by decide)), g, nI_clamp (by omega), nI_1]
      · by_cases ej : j = n
        · subst ej
          exact ⟨d, hd, by simp [zput], by simp [zput]⟩
        · obtain ⟨c, h1, h2, h3⟩ := e3 j (by omega)
          exact ⟨c, h1, by simp [zput, ej, h2], by simp [zput, ej, h3]⟩
      · rw [zput_ne (by have : zNW = 62 := rfl; omega), zput_ne (by have : zNW = 62 := rfl; omega), zput_ne (by have : zNW = 62 := rfl; omega), zput_ne (by have : zNW = 62 := rfl; omega)]
        exact hro i hi
    · have hn20 : n = 20 := by omega
      subst hn20
      refine ⟨-3, M, M, ?_, ?_, hR, hro⟩
      · rw [e112_0, s46r, zbI_some, hw, if_neg (by decide), e1, if_neg (by decide)]
      · rw [e186_0, s143r L _ 0 3 (by decide) (by decide), zbI_some, hw, if_neg (by decide), e2, if_pos (by decide)]
  · refine ⟨-1, M, M, ?_, ?_, hR, hro⟩
    · rw [e112_0, s46r, zbI_some, hw, if_pos (by decide)]
    · rw [e186_0, s143r L _ 0 3 (by decide) (by decide), zbI_some, hw, if_pos (by decide)]
end KS
