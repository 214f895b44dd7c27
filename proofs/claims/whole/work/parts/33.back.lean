/-- n places of row a from j on hold g -/
def zln (M : zM) (a j n : Nat) (g : Nat → Int32) : zM := fun x y => if x = a ∧ j ≤ y ∧ y < j + n then g (y - j) else M x y
theorem zln_0 (M : zM) (a j : Nat) (g : Nat → Int32) : zln M a j 0 g = M := by
  funext x y
  unfold zln
  rw [if_neg (by omega)]
theorem zln_s (M : zM) (a j n : Nat) (g : Nat → Int32) : zput (zln M a j n g) a (j + n) (g n) = zln M a j (n + 1) g := by
  funext x y
  unfold zput zln
  by_cases h1 : x = a ∧ y = j + n
  · obtain ⟨rfl, rfl⟩ := h1
    rw [if_pos ⟨rfl, rfl⟩, if_pos ⟨rfl, by omega, by omega⟩, Nat.add_sub_cancel_left]
  · rw [if_neg h1]
    by_cases h2 : x = a ∧ j ≤ y ∧ y < j + n
    · rw [if_pos h2, if_pos ⟨h2.1, h2.2.1, by omega⟩]
    · rw [if_neg h2, if_neg]
      rintro ⟨q1, q2, q3⟩
      by_cases q4 : y = j + n
      · exact h1 ⟨q1, q4⟩
      · exact h2 ⟨q1, q2, by omega⟩
theorem zln_row (M : zM) {a j n k : Nat} {g : Nat → Int32} (h : k ≠ a) : zln M a j n g k = M k := by
  funext y
  unfold zln
  rw [if_neg (fun q => h q.1)]
theorem zln_in (M : zM) {a j n y : Nat} {g : Nat → Int32} (h1 : j ≤ y) (h2 : y < j + n) : zln M a j n g a y = g (y - j) := by
  unfold zln
  rw [if_pos ⟨rfl, h1, h2⟩]
theorem zln_out (M : zM) {a j n y : Nat} {g : Nat → Int32} (h : ¬ (j ≤ y ∧ y < j + n)) : zln M a j n g a y = M a y := by
  unfold zln
  rw [if_neg (fun q => h q.2)]
section KX
variable {L : Nat} {ro M : zM}
theorem s229_l {T m : Nat} {f : Nat → Nat} (hT : T ≤ 7) (hm : m ≤ 1) (hf : ∀ q, q < T → f q ≤ 1) (h2 : M 49 2 = nI T) (h10 : M 48 10 = nI m) (h55 : M 55 (8 * m + 7) = nI (zbits f T)) : ∀ d k, d + k = T → zden (L + 1) 229 64 [some (.ref 48), some (.int (nI k))] [] (zln M 49 79 k (fun q => nI (f q))) = some (some (.int (nI m)), zput (zput (zln M 49 79 T (fun q => nI (f q))) 48 6 0) 48 8 0) := by
  have hB : zbits f T < 128 := by
    have := zbits_lt hf
    have : 2 ^ T ≤ 2 ^ 7 := Nat.pow_le_pow_right (by omega) hT
    omega
  have r2 : ∀ k, zln M 49 79 k (fun q => nI (f q)) 49 2 = nI T := fun k => by rw [zln_out _ (by omega)]; exact h2
  have r10 : ∀ k, zln M 49 79 k (fun q => nI (f q)) 48 10 = nI m := fun k => by rw [zln_row _ (by decide)]; exact h10
  have r55 : ∀ k, zln M 49 79 k (fun q => nI (f q)) 55 (8 * m + 7) = nI (zbits f T) := fun k => by rw [zln_row _ (by decide)]; exact h55
  intro d
  induction d with
  | zero =>
    intro k hk
    have : k = T := by omega
    subst this
    rw [e229_64, r2, if_neg (nI_nlt (by omega) (by omega)), zput_o _ _ (Or.inr (by decide)), zput_o _ _ (Or.inr (by decide)), r10]
  | succ d ih =>
    intro k hk
    have hbg := zbit_get ⟨zbits f T, hB⟩ ⟨k, by omega⟩
    dsimp only at hbg
    rw [e229_64, r2, r10, if_pos (nI_lt (by omega) (by omega)), show (8 : Int32) = nI 8 from rfl, nI_mul, show (7 : Int32) = nI 7 from rfl, nI_add, if_pos ((zinb_nI (by omega)).mpr (by omega)), show (79 : Int32) = nI 79 from rfl, nI_add, if_pos ((zinb_nI (by omega)).mpr (by omega)), nI_clamp (by omega), nI_clamp (by omega), r55, hbg, zbits_get hf k (by omega), nI_1]
    have hs := zln_s M 49 79 k (fun q => nI (f q))
    rw [hs]
    exact ih (k + 1) (by omega)
theorem k_back (hR : zRel M) (hro : ∀ i, zNW ≤ i → M i = ro i) : zSame L ro 139 229 [some (.ref 0)] [some (.ref 48), none] M := by
  obtain ⟨t, hb, hc, hm, htx, hnw, hfx, hps, htd, hkp⟩ := id hR
  obtain ⟨n, hn, q1, q2, q3, q4⟩ := hkp
  cases n with
  | zero =>
    refine ⟨-2, M, M, ?_, ?_, hR, hro⟩
    · rw [e139_0, s17b0 q1, zbI_some, if_pos (by decide)]
    · rw [e229_0, q2, if_pos (by decide)]
  | succ m =>
    have h7 : t 2 ≤ 7 := hb.1.2.2.2.1
    obtain ⟨⟨nn, w1, w2⟩, b, f, b40, kb, hf, kl⟩ := q3 m (by omega)
    obtain ⟨Ma, hMa⟩ : ∃ Ma, Ma = zcp2 (zput M 45 3 (nI m)) 46 (8 * m) 42 0 8 := ⟨_, rfl⟩
    have a42 : ∀ j, j < 8 → Ma 42 j = M 55 (8 * m + j) := fun j hj => by rw [hMa, zcp2_in _ (by omega) (by omega), Nat.sub_zero, zput_o _ _ (Or.inl (by decide))]; exact q4 _ (by omega)
    have ao : ∀ i, i ≠ 42 → i ≠ 45 → Ma i = M i := fun i h1 h2 => by rw [hMa, zcp2_row _ h1, zput_ne h2]
    have a45 : ∀ j, j ≠ 3 → Ma 45 j = M 45 j := fun j hj => by rw [hMa, zcp2_cell (by decide), zput_o _ _ (Or.inr hj)]
    have a453 : Ma 45 3 = nI m := by rw [hMa, zcp2_cell (by decide), zput_at]
    obtain ⟨M1, hM1⟩ : ∃ M1, M1 = zput (zput (zput (zput (zcp2 Ma 42 0 40 0 6) 4 3 (nI b)) 1 14 (nI (zbits f (t 2)))) 0 15 0) 43 3 0 := ⟨_, rfl⟩
    have comp : zden (L + 1) 139 0 [some (.ref 0)] [] M = some (some (.int (nI m)), M1) := by
      have c42 : ∀ j, j < 8 → zcp2 Ma 42 0 40 0 6 42 j = M 55 (8 * m + j) := fun j hj => by rw [zcp2_cell (by decide)]; exact a42 j hj
      have e45 : M1 45 3 = nI m := by rw [hM1, zput_o _ _ (Or.inl (by decide)), zput_o _ _ (Or.inl (by decide)), zput_o _ _ (Or.inl (by decide)), zput_o _ _ (Or.inl (by decide)), zcp2_cell (by decide)]; exact a453
      rw [e139_0, s17b (by omega) hfx.2.2.2 q1, zbI_some, if_neg (by decide), ← hMa, s31_42_40, zbV_some, s4_42, zbI_some, show (6 : Int32) = nI 6 from rfl, zrd_nI (by omega), if_pos (by omega), c42 6 (by omega), kb, s5_4, zbV_some, show (3 : Int32) = nI 3 from rfl, zwr_nI (by omega) (by omega), s4_42, zbI_some, show (7 : Int32) = nI 7 from rfl, zrd_nI (by omega), if_pos (by omega), zput_o (i := 4) (a := 42) _ _ (Or.inl (by decide)), c42 7 (by omega), kl, s94, zbV_some, ← hM1, e45]
    have o1 : ∀ i, i ≠ 0 → i ≠ 1 → i ≠ 4 → i ≠ 40 → i ≠ 42 → i ≠ 43 → i ≠ 45 → M1 i = M i := fun i g0 g1 g4 g40 g42 g43 g45 => by rw [hM1, zput_ne g43, zput_ne g0, zput_ne g1, zput_ne g4, zcp2_row _ g40, ao i g42 g45]
    obtain ⟨Mb, hMb⟩ : ∃ Mb, Mb = zput (zcp2 (zput M1 48 10 (nI m)) 55 (8 * m) 52 0 6) 49 7 (nI b) := ⟨_, rfl⟩
    obtain ⟨M2, hM2⟩ : ∃ M2, M2 = zput (zput (zln Mb 49 79 (t 2) (fun q => nI (f q))) 48 6 0) 48 8 0 := ⟨_, rfl⟩
    have e55 : M1 55 = M 55 := o1 55 (by decide) (by decide) (by decide) (by decide) (by decide) (by decide) (by decide)
    have e49 : M1 49 = M 49 := o1 49 (by decide) (by decide) (by decide) (by decide) (by decide) (by decide) (by decide)
    have e48 : M1 48 = M 48 := o1 48 (by decide) (by decide) (by decide) (by decide) (by decide) (by decide) (by decide)
    have model : zden (L + 1) 229 0 [some (.ref 48), none] [] M1 = some (some (.int (nI m)), M2) := by
      have g10 : M1 48 10 = nI (m + 1) := by rw [e48]; exact q2
      have c10 : zcp2 (zput M1 48 10 (nI m)) 55 (8 * m) 52 0 6 48 10 = nI m := by rw [zcp2_cell (by decide), zput_at]
      have c55 : ∀ j, zcp2 (zput M1 48 10 (nI m)) 55 (8 * m) 52 0 6 55 j = M 55 j := fun j => by rw [zcp2_cell (by decide), zput_o _ _ (Or.inl (by decide)), e55]
      have hl := s229_l (L := L) (M := Mb) (T := t 2) (m := m) (f := f) h7 (by omega) hf (by rw [hMb, zput_o _ _ (Or.inr (by decide)), zcp2_cell (by decide), zput_o _ _ (Or.inl (by decide)), e49]; exact hm 2 (by omega)) (by rw [hMb, zput_o _ _ (Or.inl (by decide)), c10]) (by rw [hMb, zput_o _ _ (Or.inl (by decide)), c55]; exact kl) (t 2) 0 (by omega)
      rw [zln_0] at hl
      rw [e229_0, g10, if_neg (nI_ne0 (by omega) (by omega)), nI_pred, zput_at, show (8 : Int32) = nI 8 from rfl, nI_mul, show (0 : Int32) = nI 0 from rfl, s177_48_55_52 L (i := 8 * m) (j := 0) (by omega) (by omega), zbV_some, c10, nI_mul, show (6 : Int32) = nI 6 from rfl, nI_add, if_pos ((zinb_nI (by omega)).mpr (by omega)), nI_clamp (by omega), c55, kb, ← hMb, hl, hM2]
    have o2 : ∀ i, i ≠ 0 → i ≠ 1 → i ≠ 4 → i ≠ 40 → i ≠ 42 → i ≠ 43 → i ≠ 45 → i ≠ 48 → i ≠ 49 → i ≠ 52 → M2 i = M i := fun i g0 g1 g4 g40 g42 g43 g45 g48 g49 g52 => by rw [hM2, zput_ne g48, zput_ne g48, zln_row _ g49, hMb, zput_ne g49, zcp2_row _ g52, zput_ne g48, o1 i g0 g1 g4 g40 g42 g43 g45]
    have c2 : ∀ i, i ≠ 48 → i ≠ 49 → i ≠ 52 → M2 i = M1 i := fun i g48 g49 g52 => by rw [hM2, zput_ne g48, zput_ne g48, zln_row _ g49, hMb, zput_ne g49, zcp2_row _ g52, zput_ne g48]
    have m48 : ∀ j, j ≠ 6 → j ≠ 8 → j ≠ 10 → M2 48 j = M 48 j := fun j j6 j8 j10 => by rw [hM2, zput_o _ _ (Or.inr j8), zput_o _ _ (Or.inr j6), zln_row _ (by decide), hMb, zput_o _ _ (Or.inl (by decide)), zcp2_cell (by decide), zput_o _ _ (Or.inr j10), e48]
    have tn : ∀ k, k ≠ 7 → (k < 79 ∨ 86 ≤ k) → zmod t b f k = t k := fun k g1 g2 => zmod_o g1 g2 h7
    refine ⟨nI m, M1, M2, comp, model, ⟨zmod t b f, zmod_b hb b40 hf, ?_, ?_, zTx_c htx (by rw [o2 23 (by decide) (by decide) (by decide) (by decide) (by decide) (by decide) (by decide) (by decide) (by decide) (by decide)]) (m48 3 (by decide) (by decide) (by decide)) (o2 24 (by decide) (by decide) (by decide) (by decide) (by decide) (by decide) (by decide) (by decide) (by decide) (by decide)) (o2 51 (by decide) (by decide) (by decide) (by decide) (by decide) (by decide) (by decide) (by decide) (by decide) (by decide)), ?_, ?_, zPs_0 ?_ ?_, zTd_0 ?_ ?_, ?_⟩, fun i hi => ?_⟩
    · refine zmod_c hb hc (fun k hk => ?_) ?_ (fun k hk => ?_) ?_ (fun i g1 g2 g3 => o2 i (by omega) (by omega) (by omega) (by omega) (by omega) (by omega) (by omega) (by omega) (by omega) (by omega))
      · rw [c2 1 (by decide) (by decide) (by decide), hM1, zput_o _ _ (Or.inl (by decide)), zput_o _ _ (Or.inl (by decide)), zput_o _ _ (Or.inr hk), zput_o _ _ (Or.inl (by decide)), zcp2_cell (by decide), ao 1 (by decide) (by decide)]
      · rw [c2 1 (by decide) (by decide) (by decide), hM1, zput_o _ _ (Or.inl (by decide)), zput_o _ _ (Or.inl (by decide)), zput_at]
      · rw [c2 4 (by decide) (by decide) (by decide), hM1, zput_o _ _ (Or.inl (by decide)), zput_o _ _ (Or.inl (by decide)), zput_o _ _ (Or.inl (by decide)), zput_o _ _ (Or.inr hk), zcp2_cell (by decide), ao 4 (by decide) (by decide)]
      · rw [c2 4 (by decide) (by decide) (by decide), hM1, zput_o _ _ (Or.inl (by decide)), zput_o _ _ (Or.inl (by decide)), zput_o _ _ (Or.inl (by decide)), zput_at]
    · intro j hj
      rw [hM2, zput_o _ _ (Or.inl (by decide)), zput_o _ _ (Or.inl (by decide))]
      by_cases hl : 79 ≤ j ∧ j < 79 + t 2
      · rw [zln_in _ hl.1 hl.2]
        obtain ⟨q, rfl⟩ : ∃ q, j = 79 + q := ⟨j - 79, by omega⟩
        rw [zmod_l (by omega), Nat.add_sub_cancel_left]
      · rw [zln_out _ hl, hMb]
        by_cases j7 : j = 7
        · subst j7
          rw [zput_at, zmod_7]
        · rw [zput_o _ _ (Or.inr j7), zcp2_cell (by decide), zput_o _ _ (Or.inl (by decide)), e49, hm j hj]
          unfold zmod
          rw [if_neg j7, if_neg hl]
    · have h52 : ∀ j, j < 6 → M2 52 j = M 55 (8 * m + j) := fun j hj => by rw [hM2, zput_o _ _ (Or.inl (by decide)), zput_o _ _ (Or.inl (by decide)), zln_row _ (by decide), hMb, zput_o _ _ (Or.inl (by decide)), zcp2_in _ (by omega) (by omega), Nat.sub_zero, zput_o _ _ (Or.inl (by decide)), e55]
      have h40 : ∀ j, j < 6 → M2 40 j = M 55 (8 * m + j) := fun j hj => by rw [c2 40 (by decide) (by decide) (by decide), hM1, zput_o _ _ (Or.inl (by decide)), zput_o _ _ (Or.inl (by decide)), zput_o _ _ (Or.inl (by decide)), zput_o _ _ (Or.inl (by decide)), zcp2_in _ (by omega) (by omega), Nat.sub_zero, Nat.zero_add, a42 j (by omega)]
      refine ⟨⟨nn, fun j hj => by rw [Nat.zero_add, h52 j hj]; exact w1 j hj, ?_⟩, fun j hj => by rw [h52 j hj, h40 j hj]⟩
      rw [tn 0 (by omega) (by omega), tn 11 (by omega) (by omega)]
      exact w2
    · have z45 : ∀ j, j ≠ 3 → M2 45 j = M 45 j := fun j hj => by rw [c2 45 (by decide) (by decide) (by decide), hM1, zput_o _ _ (Or.inl (by decide)), zput_o _ _ (Or.inl (by decide)), zput_o _ _ (Or.inl (by decide)), zput_o _ _ (Or.inl (by decide)), zcp2_cell (by decide), a45 j hj]
      have z43 : ∀ j, j ≠ 3 → M2 43 j = M 43 j := fun j hj => by rw [c2 43 (by decide) (by decide) (by decide), hM1, zput_o _ _ (Or.inr hj), zput_o _ _ (Or.inl (by decide)), zput_o _ _ (Or.inl (by decide)), zput_o _ _ (Or.inl (by decide)), zcp2_cell (by decide), ao 43 (by decide) (by decide)]
      exact zFx_c hfx (z43 0 (by decide)) (z43 1 (by decide)) (z45 0 (by decide)) (z45 1 (by decide))
    · rw [c2 43 (by decide) (by decide) (by decide), hM1, zput_at]
    · rw [hM2, zput_o _ _ (Or.inr (by decide)), zput_at]
    · rw [c2 0 (by decide) (by decide) (by decide), hM1, zput_o _ _ (Or.inl (by decide)), zput_at]
    · rw [hM2, zput_at]
    · have z453 : M2 45 3 = nI m := by rw [c2 45 (by decide) (by decide) (by decide), hM1, zput_o _ _ (Or.inl (by decide)), zput_o _ _ (Or.inl (by decide)), zput_o _ _ (Or.inl (by decide)), zput_o _ _ (Or.inl (by decide)), zcp2_cell (by decide), a453]
      have z10 : M2 48 10 = nI m := by rw [hM2, zput_o _ _ (Or.inr (by decide)), zput_o _ _ (Or.inr (by decide)), zln_row _ (by decide), hMb, zput_o _ _ (Or.inl (by decide)), zcp2_cell (by decide), zput_at]
      have z55 : M2 55 = M 55 := o2 55 (by decide) (by decide) (by decide) (by decide) (by decide) (by decide) (by decide) (by decide) (by decide) (by decide)
      have z46 : M2 46 = M 46 := o2 46 (by decide) (by decide) (by decide) (by decide) (by decide) (by decide) (by decide) (by decide) (by decide) (by decide)
      refine zKp_t (t := t) (tn 0 (by omega) (by omega)) (tn 11 (by omega) (by omega)) (tn 2 (by omega) (by omega)) ⟨m, by omega, z453, z10, fun i hi => ?_, fun j hj => ?_⟩
      · rw [z55]; exact q3 i (by omega)
      · rw [z55, z46]; exact q4 j (by omega)
    · have : zNW = 62 := rfl
      rw [o2 i (by omega) (by omega) (by omega) (by omega) (by omega) (by omega) (by omega) (by omega) (by omega) (by omega)]
      exact hro i hi
end KX
