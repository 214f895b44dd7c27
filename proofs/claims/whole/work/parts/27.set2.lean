theorem zrng_ab {x : Int32} {a b : Nat} (ha : a < 2 ^ 31) (hb : b < 2 ^ 31) (h : zrng x (nI a) (nI b) = true) : ∃ j : Nat, a ≤ j ∧ j ≤ b ∧ x = nI j := by
  simp only [zrng, Bool.and_eq_true, Bool.not_eq_true', decide_eq_false_iff_not] at h
  obtain ⟨h1, h2⟩ := h
  have h0 : ¬ x < 0 := by
    intro q
    rw [zi_lt] at h1 q
    rw [nI_toInt ha] at h1
    have : (0 : Int32).toInt = 0 := by decide
    omega
  obtain ⟨j, hj, rfl⟩ := nI_of2 (nI_toInt hb) h0 (Int32.not_lt.mp h2)
  refine ⟨j, ?_, hj, rfl⟩
  rw [nI_ltI (by omega) ha] at h1
  omega
theorem zi2c {c : Nat} (h : c < 65536) : ((nI c).toUInt32 % 65536).toInt32 = nI c := lg_i2c_word (by rw [nI_toInt (by omega)]; omega) (by rw [nI_toInt (by omega)]; omega)
theorem zcha {c : Nat} (h : c < 65536) : vp_nar .char (nI c) = nI c := by
  show (nI c).toUInt32.toUInt16.toUInt32.toInt32 = nI c
  rw [← lg_i2c_nf]
  exact zi2c h
theorem zStAt_t {t t' : Nat → Nat} {f : Nat → Int32} {b : Nat} (h0 : t' 0 = t 0) (h1 : t' 11 = t 11) (h : zStAt t f b) : zStAt t' f b := by
  obtain ⟨n, g1, g2, g3, g4, g5⟩ := h
  exact ⟨n, g1, by rw [h0]; exact g2, g3, by rw [h1]; exact g4, g5⟩
theorem zro_put {M ro : zM} {i j : Nat} {x : Int32} (hi : i < zNW) (h : ∀ k, zNW ≤ k → M k = ro k) : ∀ k, zNW ≤ k → zput M i j x k = ro k := fun k hk => by rw [zput_ne (by omega)]; exact h k hk
theorem zro_cp {M ro : zM} {a i b j n : Nat} (hb : b < zNW) (h : ∀ k, zNW ≤ k → M k = ro k) : ∀ k, zNW ≤ k → zcp2 M a i b j n k = ro k := fun k hk => by rw [zcp2_row M (by omega)]; exact h k hk
theorem zro_fl {M ro : zM} {a n : Nat} {v : Int32} (hb : a < zNW) (h : ∀ k, zNW ≤ k → M k = ro k) : ∀ k, zNW ≤ k → zfl M a n v k = ro k := fun k hk => by rw [zfl_row M (by omega)]; exact h k hk
section KW
variable {L : Nat} {ro M : zM}
theorem k_write (w : Int32) (hR : zRel M) (hro : ∀ i, zNW ≤ i → M i = ro i) : zSame L ro 96 144 [some (.ref 0), some (.int w)] [some (.ref 48), some (.int w)] M := by
  obtain ⟨t, hb, hc, hm, htx, hnw, hfx, hps, htd, hkp⟩ := id hR
  obtain ⟨n, hn, e1, e2, e3⟩ := id htx
  rcases zrng_cases w 32 126 with hw | hw
  · obtain ⟨c, hc1, hc2, rfl⟩ := zrng_ab (a := 32) (b := 126) (by omega) (by omega) hw
    by_cases hl : n < 200
    · have hne : ¬ nI n = 200 := fun q => by have := (nI_eq (b := 200) (by omega) (by omega)).mp q; omega
      have hlt : nI n < 200 := nI_lt (b := 200) hl (by omega)
      refine ⟨nI (n + 1), zput (zput M 24 n (nI c)) 23 1 (nI (n + 1)), zput (zput (zput (zput M 24 n (nI c)) 23 1 (nI (n + 1))) 51 n (nI c)) 48 3 (nI (n + 1)), ?_, ?_, ⟨t, hb, zTc_c hc (by simp [zput_row]) (fun k h1 h2 => by rw [zput_ne (by omega), zput_ne (by omega), zput_ne (by omega), zput_ne (by omega)]), zTm_c hm (by simp [zput_row]), ⟨n + 1, by omega, by simp [zput], by simp [zput], fun j hj => ?_⟩, zNw_c hnw (by simp [zput_row]) (by simp [zput_row]), zFx_c hfx (by simp [zput]) (by simp [zput]) (by simp [zput]) (by simp [zput]), zPs_c hps (by simp [zput]) (by simp [zput]) (by simp [zput_row]) (by simp [zput_row]), zTd_c htd (by simp [zput]) (by simp [zput]) (by simp [zput_row]) (by simp [zput_row]), zKp_c hkp (by simp [zput]) (by simp [zput]) (by simp [zput_row]) (by simp [zput_row])⟩, zro_put (by decide) (zro_put (by decide) (zro_put (by decide) (zro_put (by decide) hro)))⟩
      · rw [e96_0, s46r, zbI_some, hw, if_neg (by decide), zi2c (by omega), e29_0, e1, if_neg (nI_pos (by omega)), if_pos hlt, if_pos ((zinb_nI (by omega)).mpr (by omega)), zbI_some, zput_at, zcha (by omega), zput_o (i := 24) _ _ (Or.inl (by decide)), e1, nI_clamp (by omega), nI_1]
      · rw [e144_0, s143r L _ 32 126 (by decide) (by decide), zbI_some, hw, if_neg (by decide)]
        have g : zput (zput M 24 n (nI c)) 23 1 (nI (n + 1)) 48 3 = nI n := by rw [zput_o _ _ (Or.inl (by decide)), zput_o _ _ (Or.inl (by decide)), e2]
        rw [g, if_neg hne, if_pos ((zinb_nI (by omega)).mpr (by omega)), zput_at, zput_o (i := 51) _ _ (Or.inl (by decide)), g, nI_clamp (by omega), nI_1]
      · by_cases ej : j = n
        · subst ej
          exact ⟨c, hc1, hc2, by simp [zput], by simp [zput]⟩
        · obtain ⟨c', h1, h2, h3, h4⟩ := e3 j (by omega)
          exact ⟨c', h1, h2, by simp [zput, ej, h3], by simp [zput, ej, h4]⟩
    · have h200 : n = 200 := by omega
      subst h200
      refine ⟨-3, M, M, ?_, ?_, hR, hro⟩
      · rw [e96_0, s46r, zbI_some, hw, if_neg (by decide), e29_0, e1, if_neg (by decide), if_neg (by decide), e29_19, zbI_some]
      · rw [e144_0, s143r L _ 32 126 (by decide) (by decide), zbI_some, hw, if_neg (by decide), e2, if_pos (by decide)]
  · refine ⟨-1, M, M, ?_, ?_, hR, hro⟩
    · rw [e96_0, s46r, zbI_some, hw, if_pos (by decide)]
    · rw [e144_0, s143r L _ 32 126 (by decide) (by decide), zbI_some, hw, if_pos (by decide)]
theorem k_bags (w : Int32) (hR : zRel M) (hro : ∀ i, zNW ≤ i → M i = ro i) : zSame L ro 134 223 [some (.ref 0), some (.int w), none] [some (.ref 48), some (.int w), none] M := by
  obtain ⟨t, hb, hc, hm, htx, hnw, hfx, hps, htd, hkp⟩ := id hR
  rcases zrng_cases w 0 40 with hw | hw
  · obtain ⟨d, hd, rfl⟩ := zrng_nI (b := 40) (by omega) hw
    have e3 : M 4 3 = nI (t 7) := hc.2.1 3 (by omega)
    obtain ⟨t', ht'⟩ : ∃ t' : Nat → Nat, t' = fun k => if k = 7 then d else t k := ⟨_, rfl⟩
    have t7 : t' 7 = d := by rw [ht']; simp
    have tn : ∀ k, k ≠ 7 → t' k = t k := fun k hk => by rw [ht']; simp [hk]
    refine ⟨nI (t 7), zput (zput M 4 3 (nI d)) 43 3 0, zput (zput (zput (zput M 4 3 (nI d)) 43 3 0) 49 7 (nI d)) 48 6 0, ?_, ?_, ⟨t', ?_, ?_, ?_, zTx_c htx (by simp [zput]) (by simp [zput]) (by simp [zput_row]) (by simp [zput_row]), ?_, zFx_c hfx (by simp [zput]) (by simp [zput]) (by simp [zput]) (by simp [zput]), zPs_0 (by simp [zput]) (by simp [zput]), zTd_c htd (by simp [zput]) (by simp [zput]) (by simp [zput_row]) (by simp [zput_row]), ?_⟩, zro_put (by decide) (zro_put (by decide) (zro_put (by decide) (zro_put (by decide) hro)))⟩
    · rw [e134_0, s46r, zbI_some, hw, if_neg (by decide), s0_3, zbI_some, e3, s5_4, zbV_some, show (3 : Int32) = nI 3 from rfl, zwr_nI (by omega) (by omega), e14_43_0, zbV_some]
    · rw [e223_0, s143r L _ 0 40 (by decide) (by decide), zbI_some, hw, if_neg (by decide), zput_o _ _ (Or.inl (by decide)), zput_o _ _ (Or.inl (by decide)), hm 7 (by omega)]
    · unfold zTb at hb ⊢
      obtain ⟨g1, g2, g3, g4, g5, g6, g7⟩ := hb
      simp only [t7, tn 0 (by omega), tn 1 (by omega), tn 2 (by omega), tn 3 (by omega), tn 4 (by omega), tn 5 (by omega), tn 6 (by omega), tn 8 (by omega), tn 9 (by omega), tn 10 (by omega), tn 11 (by omega), tn 12 (by omega), tn 13 (by omega), tn 14 (by omega), tn 15 (by omega)]
      refine ⟨g1, by omega, fun s hs => ?_, fun h hh => ?_, fun h hh => ?_, fun q hq => ?_, fun e he => ?_⟩
      · rw [tn _ (by omega), tn _ (by omega)]; exact g3 s hs
      · rw [tn _ (by omega), tn _ (by omega)]; exact g4 h hh
      · rw [tn _ (by omega)]; exact g5 h hh
      · rw [tn _ (by omega), tn _ (by omega)]; exact g6 q hq
      · rw [tn _ (by omega), tn _ (by omega), tn _ (by omega)]; exact g7 e he
    · obtain ⟨g1, g2, g3, g4, g5, g6, g7⟩ := hc
      have hz : zbits (fun q => t' (79 + q)) (t 2) = zbits (fun q => t (79 + q)) (t 2) := by
        congr 1
        funext q
        exact tn _ (by omega)
      unfold zTc
      rw [tn 0 (by omega), tn 1 (by omega), tn 2 (by omega), tn 3 (by omega), hz]
      refine ⟨by simpa [zput] using g1, fun k hk => ?_, fun s hs => ?_, fun h hh => ?_, fun h hh => ?_, fun q hq => ?_, fun e he => ?_⟩
      · by_cases k3 : k = 3
        · subst k3
          rw [show 4 + 3 = 7 by omega, t7]
          simp [zput]
        · rw [tn _ (by omega), ← g2 k hk]
          simp [zput, k3]
      · rw [tn _ (by omega), tn _ (by omega), ← (g3 s hs).1, ← (g3 s hs).2]
        simp [zput]
      · rw [tn _ (by omega), tn _ (by omega), ← (g4 h hh).1, ← (g4 h hh).2]
        simp [zput]
      · rw [tn _ (by omega), ← g5 h hh]
        simp [zput]
      · rw [tn _ (by omega), ← g6 q hq]
        simp [zput]
      · rw [tn _ (by omega), tn _ (by omega), tn _ (by omega), ← (g7 e he).1, ← (g7 e he).2.1, ← (g7 e he).2.2]
        simp [zput]
    · intro j hj
      by_cases j7 : j = 7
      · subst j7
        rw [t7]
        simp [zput]
      · rw [tn j j7, ← hm j hj]
        simp [zput, j7]
    · have h52 : ∀ x : zM, zput (zput (zput (zput x 4 3 (nI d)) 43 3 0) 49 7 (nI d)) 48 6 0 52 = x 52 := fun x => by simp [zput_row]
      have h40 : ∀ x : zM, zput (zput (zput (zput x 4 3 (nI d)) 43 3 0) 49 7 (nI d)) 48 6 0 40 = x 40 := fun x => by simp [zput_row]
      unfold zNw
      rw [h52, h40]
      exact ⟨zStAt_t (tn 0 (by omega)) (tn 11 (by omega)) hnw.1, hnw.2⟩
    · obtain ⟨n, g1, g2, g3, g4, g5⟩ := zKp_c (M' := zput (zput (zput (zput M 4 3 (nI d)) 43 3 0) 49 7 (nI d)) 48 6 0) hkp (by simp [zput]) (by simp [zput]) (by simp [zput_row]) (by simp [zput_row])
      refine ⟨n, g1, g2, g3, fun i hi => ?_, g5⟩
      obtain ⟨q1, b, f, q2, q3, q4, q5⟩ := g4 i hi
      exact ⟨zStAt_t (tn 0 (by omega)) (tn 11 (by omega)) q1, b, f, q2, q3, by rw [tn 2 (by omega)]; exact q4, by rw [tn 2 (by omega)]; exact q5⟩
  · refine ⟨-1, M, M, ?_, ?_, hR, hro⟩
    · rw [e134_0, s46r, zbI_some, hw, if_pos (by decide)]
    · rw [e223_0, s143r L _ 0 40 (by decide) (by decide), zbI_some, hw, if_pos (by decide)]
end KW
