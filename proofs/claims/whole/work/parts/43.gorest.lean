section KR
variable {L : Nat} {ro M : zM} {t : Nat → Nat}
theorem s107 {n : Nat → Nat} {c p : Nat} (hb : zTb t) (hc : zTc M 1 t) (hk : zRo M) (hr : wRw (M 40) n) (ho : wOk t n) (hcc : c ≤ 3) (hp : p ≤ 8) (h0 : M 43 0 = 8) (h1 : M 43 1 = 6) (h3 : M 43 3 = nI p) : ∃ M', zden (L + 1) 107 0 [some (.ref 0), some (.int (nI c))] [] M = some (some (.int (zb (wmC t n c))), M') ∧ (wmC t n c = false → ∀ i, i ≠ 41 → M' i = M i) ∧ (wmC t n c = true → (∀ i, i ≠ 40 → i ≠ 41 → i ≠ 43 → i ≠ 44 → M' i = M i) ∧ (M' 43 0 = 8 ∧ M' 43 1 = 6) ∧ M' 43 3 = nI (wpn p + 1) ∧ (∀ j, j < 6 * wpn p → M' 44 j = M 44 (j + wpd p)) ∧ (∀ j, j < 6 → M' 44 (6 * wpn p + j) = M 40 j) ∧ wRw (M' 40) (wmo t n c)) := by
  have r1 : ∀ i, i ≠ 41 → zcp2 M 40 0 41 0 6 i = M i := fun i hi => zcp2_row M hi
  have r41 : wRw (zcp2 M 40 0 41 0 6 41) n := fun j hj => by rw [zcp2_in M (by omega) (by omega), Nat.zero_add, Nat.sub_zero]; exact hr j hj
  obtain ⟨M2, g1, g2, g3⟩ := s77 (L := L) hb (zTc_41 hc r1 (by omega)) (zRo_of hk (fun i hi => r1 i (zn62 hi (by omega)))) r41 ho hcc
  rw [e107_0, s31_40_41, zbV_some, g1, zbI_some]
  cases hw : wmC t n c with
  | false =>
    rw [if_pos (show zb false = 0 from rfl)]
    exact ⟨M2, rfl, fun _ i hi => by rw [g2 i hi, r1 i hi], fun q => by cases q⟩
  | true =>
    have q : ∀ i, i ≠ 41 → M2 i = M i := fun i hi => by rw [g2 i hi, r1 i hi]
    obtain ⟨M3, f1, f2, f3, f4, f5, f6⟩ := s16a (L := L) (M := M2) hp (by rw [q 43 (by decide)]; exact h0) (by rw [q 43 (by decide)]; exact h1) (by rw [q 43 (by decide)]; exact h3)
    rw [if_neg (show ¬ zb true = 0 by decide), f1, zbV_some, s31_41_40, zbV_some]
    refine ⟨_, rfl, fun q => (by cases q), fun _ => ⟨fun i a1 a2 a3 a4 => ?_, ?_, ?_, fun j hj => ?_, fun j hj => ?_, fun j hj => ?_⟩⟩
    · rw [zcp2_row _ a1, f2 i a3 a4, q i a2]
    · rw [zcp2_row _ (by decide)]; exact f3
    · rw [zcp2_row _ (by decide)]; exact f4
    · rw [zcp2_row _ (by decide), f5 j hj, q 44 (by decide)]
    · rw [zcp2_row _ (by decide), f6 j hj, q 40 (by decide)]
    · rw [zcp2_in _ (by omega) (by omega), Nat.zero_add, Nat.sub_zero, f2 41 (by decide) (by decide)]
      exact g3 hw j hj
/-- what the other does behind a good move -/
theorem zRel_mv {n : Nat → Nat} {c p : Nat} {M1 M2 M3 : zM} (hb : zTb t) (hc : zTc M 1 t) (hm : zTm M 49 t) (htx : zTx M) (hr : wRw (M 52) n) (hr0 : ∀ j, j < 6 → M 40 j = M 52 j) (ho : wOk t n) (hfx : zFx M) (hps2 : M 48 6 = nI p) (hp8 : p ≤ 8) (hps3 : ∀ i, i < p → zStAt t (M 53) (6 * i)) (hps4 : ∀ j, j < 6 * p → M 44 j = M 53 j) (htd : zTd M) (hkp : zKp t M) (hw : wmC t n c = true)
    (a : (∀ i, i ≠ 40 → i ≠ 41 → i ≠ 43 → i ≠ 44 → M1 i = M i) ∧ (M1 43 0 = 8 ∧ M1 43 1 = 6) ∧ M1 43 3 = nI (wpn p + 1) ∧ (∀ j, j < 6 * wpn p → M1 44 j = M 44 (j + wpd p)) ∧ (∀ j, j < 6 → M1 44 (6 * wpn p + j) = M 40 j) ∧ wRw (M1 40) (wmo t n c))
    (b : ∀ i, i ≠ 57 → M2 i = M1 i) (b57 : wRw (M2 57) (wmo t n c))
    (d : (∀ i, i ≠ 48 → i ≠ 52 → i ≠ 53 → M3 i = M2 i) ∧ (∀ j, j ≠ 6 → M3 48 j = M2 48 j) ∧ M3 48 6 = nI (wpn p + 1) ∧ (∀ j, j < 6 * wpn p → M3 53 j = M2 53 (j + wpd p)) ∧ (∀ j, j < 6 → M3 53 (6 * wpn p + j) = M2 52 j) ∧ ∀ j, j < 6 → M3 52 j = M2 57 j) : zRel M3 := by
  obtain ⟨a1, a2, a3, a4, a5, a6⟩ := a
  obtain ⟨d1, d2, d3, d4, d5, d6⟩ := d
  have o : ∀ i, i ≠ 40 → i ≠ 41 → i ≠ 43 → i ≠ 44 → i ≠ 48 → i ≠ 52 → i ≠ 53 → i ≠ 57 → M3 i = M i := fun i h1 h2 h3 h4 h5 h6 h7 h8 => by rw [d1 i h5 h6 h7, b i h8, a1 i h1 h2 h3 h4]
  have o48 : ∀ j, j ≠ 6 → M3 48 j = M 48 j := fun j hj => by rw [d2 j hj, b 48 (by decide), a1 48 (by decide) (by decide) (by decide) (by decide)]
  have o53 : ∀ j, M2 53 j = M 53 j := fun j => by rw [b 53 (by decide), a1 53 (by decide) (by decide) (by decide) (by decide)]
  have o52 : ∀ j, M2 52 j = M 52 j := fun j => by rw [b 52 (by decide), a1 52 (by decide) (by decide) (by decide) (by decide)]
  have o43 : M3 43 = M1 43 := by rw [d1 43 (by decide) (by decide) (by decide), b 43 (by decide)]
  have o44 : M3 44 = M1 44 := by rw [d1 44 (by decide) (by decide) (by decide), b 44 (by decide)]
  have o40 : M3 40 = M1 40 := by rw [d1 40 (by decide) (by decide) (by decide), b 40 (by decide)]
  have hok := wmo_ok hb ho hw
  have hwp : wpn p ≤ 7 := by unfold wpn; split <;> omega
  have hwq : 6 * wpn p + wpd p ≤ 6 * p ∧ (p = 8 → wpd p = 6 ∧ wpn p = 7) ∧ (p ≠ 8 → wpd p = 0 ∧ wpn p = p) := by
    unfold wpn wpd
    by_cases h : p = 8
    · simp [h]
    · simp [h]
  refine ⟨t, hb, zTc_c hc (o 1 (by decide) (by decide) (by decide) (by decide) (by decide) (by decide) (by decide) (by decide)) (fun k h1 h2 => o (1 + k) (by omega) (by omega) (by omega) (by omega) (by omega) (by omega) (by omega) (by omega)), zTm_c hm (o 49 (by decide) (by decide) (by decide) (by decide) (by decide) (by decide) (by decide) (by decide)), zTx_c htx (by rw [o 23 (by decide) (by decide) (by decide) (by decide) (by decide) (by decide) (by decide) (by decide)]) (o48 3 (by decide)) (o 24 (by decide) (by decide) (by decide) (by decide) (by decide) (by decide) (by decide) (by decide)) (o 51 (by decide) (by decide) (by decide) (by decide) (by decide) (by decide) (by decide) (by decide)), ⟨⟨wmo t n c, fun j hj => ?_, hok⟩, fun j hj => ?_⟩, ⟨by rw [o43]; exact a2.1, by rw [o43]; exact a2.2, ?_, ?_⟩, ⟨wpn p + 1, by omega, by rw [o43]; exact a3, d3, fun i hi => ?_, fun j hj => ?_⟩, zTd_c htd (by rw [o 0 (by decide) (by decide) (by decide) (by decide) (by decide) (by decide) (by decide) (by decide)]) (o48 8 (by decide)) (o 47 (by decide) (by decide) (by decide) (by decide) (by decide) (by decide) (by decide) (by decide)) (o 54 (by decide) (by decide) (by decide) (by decide) (by decide) (by decide) (by decide) (by decide)), zKp_c hkp (by rw [o 45 (by decide) (by decide) (by decide) (by decide) (by decide) (by decide) (by decide) (by decide)]) (o48 10 (by decide)) (o 55 (by decide) (by decide) (by decide) (by decide) (by decide) (by decide) (by decide) (by decide)) (o 46 (by decide) (by decide) (by decide) (by decide) (by decide) (by decide) (by decide) (by decide))⟩
  · rw [Nat.zero_add, d6 j hj]; exact b57 j hj
  · rw [o40, d6 j hj, a6 j hj, b57 j hj]
  · rw [o 45 (by decide) (by decide) (by decide) (by decide) (by decide) (by decide) (by decide) (by decide)]; exact hfx.2.2.1
  · rw [o 45 (by decide) (by decide) (by decide) (by decide) (by decide) (by decide) (by decide) (by decide)]; exact hfx.2.2.2
  · by_cases hi' : i = wpn p
    · subst hi'
      refine ⟨n, fun j hj => ?_, ho⟩
      rw [d5 j hj, o52]
      exact hr j hj
    · by_cases h8 : p = 8
      · obtain ⟨nn, g1, g2⟩ := hps3 (i + 1) (by omega)
        refine ⟨nn, fun j hj => ?_, g2⟩
        rw [d4 _ (by omega), o53, ← g1 j hj]
        congr 1
        have := hwq.2.1 h8
        omega
      · obtain ⟨nn, g1, g2⟩ := hps3 i (by have := hwq.2.2 h8; omega)
        refine ⟨nn, fun j hj => ?_, g2⟩
        rw [d4 _ (by omega), o53, ← g1 j hj]
        congr 1
        have := hwq.2.2 h8
        omega
  · rw [o44]
    by_cases hj' : j < 6 * wpn p
    · rw [a4 j hj', d4 j hj', o53]
      exact hps4 _ (by omega)
    · have e : j = 6 * wpn p + (j - 6 * wpn p) := by omega
      rw [e, a5 _ (by omega), d5 _ (by omega), o52]
      exact hr0 _ (by omega)
theorem wst_of {f : Nat → Int32} (h : zStAt t f 0) : ∃ n, wRw f n ∧ wOk t n := by
  obtain ⟨n, h1, h2⟩ := h
  exact ⟨n, fun j hj => by rw [← h1 j hj, Nat.zero_add], h2⟩
theorem k_go (hk : zRo ro) (w : Int32) (hR : zRel M) (hro : ∀ i, zNW ≤ i → M i = ro i) : zSame L ro 108 181 [some (.ref 0), some (.int w)] [some (.ref 48), some (.int w)] M := by
  obtain ⟨t, hb, hc, hm, htx, hnw, hfx, hps, htd, hkp⟩ := id hR
  rcases zrng_cases w 0 2 with hw | hw
  · obtain ⟨c, hcc, rfl⟩ := zrng_nI (b := 2) (by omega) hw
    obtain ⟨n, hr, ho⟩ := wst_of hnw.1
    have hr40 : wRw (M 40) n := fun j hj => by rw [hnw.2 j hj]; exact hr j hj
    obtain ⟨p, hp8, p1, p2, p3, p4⟩ := hps
    have hkm := zRo_of hk hro
    have c3 : c ≠ 3 := by omega
    obtain ⟨M1, g1, g2, g3⟩ := s107 (L := L) hb hc hkm hr40 ho (c := c) (by omega) hp8 hfx.1 hfx.2.1 p1
    have r1 : ∀ i, i ≠ 57 → zcp2 M1 52 0 57 0 6 i = M1 i := fun i hi => zcp2_row M1 hi
    have m52 : M1 52 = M 52 := by
      cases hq : wmC t n c
      · exact g2 hq 52 (by decide)
      · exact (g3 hq).1 52 (by decide) (by decide) (by decide) (by decide)
    have m49 : M1 49 = M 49 := by
      cases hq : wmC t n c
      · exact g2 hq 49 (by decide)
      · exact (g3 hq).1 49 (by decide) (by decide) (by decide) (by decide)
    have m48 : M1 48 = M 48 := by
      cases hq : wmC t n c
      · exact g2 hq 48 (by decide)
      · exact (g3 hq).1 48 (by decide) (by decide) (by decide) (by decide)
    have r57 : wRw (zcp2 M1 52 0 57 0 6 57) n := fun j hj => by rw [zcp2_in _ (by omega) (by omega), Nat.zero_add, Nat.sub_zero, m52]; exact hr j hj
    obtain ⟨M2, f1, f2, f3⟩ := s179 (L := L) (M := zcp2 M1 52 0 57 0 6) hb (zTm_c hm (by rw [r1 49 (by decide), m49])) r57 ho (m := c) (by omega)
    have hmc : wmC t n c = wgC t n c := if_neg c3
    have hmo : wmo t n c = wgo t n c := if_neg c3
    have q2 : ∀ i, i ≠ 57 → M2 i = M1 i := fun i hi => by rw [f2 i hi, r1 i hi]
    have e0 : zden (L + 1) 181 0 [some (.ref 48), some (.int (nI c))] [] M1 = (if zb (wgC t n c) = 0 then some (some (.int (-2)), M2) else zbV (zden (L + 1) 180 0 [some (.ref 48), none] [] M2) (fun M4 => some (some (.int (M4 52 0)), M4))) := by
      rw [e181_0, s143r L _ 0 2 (by decide) (by decide), zbI_some, hw, if_neg (show ¬ zb true = 0 by decide), show (0 : Int32) = nI 0 from rfl, s177_48_52_57 L (i := 0) (j := 0) (by omega) (by omega), zbV_some, f1, zbI_some]
    have e1 : zden (L + 1) 108 0 [some (.ref 0), some (.int (nI c))] [] M = some (some (.int (if wmC t n c = true then M1 40 0 else -2)), M1) := by
      rw [e108_0, s46r, zbI_some, hw, if_neg (show ¬ zb true = 0 by decide), g1, zbI_some]
      cases hq : wmC t n c
      · rw [if_pos (show zb false = 0 from rfl), e108_32, if_neg (by decide)]
      · rw [if_neg (show ¬ zb true = 0 by decide), show (0 : Int32) = nI 0 from rfl, s4_40, zbI_some, e108_32, zrd_nI (by omega), if_pos (by omega), if_pos rfl]
    cases hq : wmC t n c with
    | false =>
      rw [hq, if_neg (by decide)] at e1
      rw [← hmc, hq, if_pos (show zb false = 0 from rfl)] at e0
      refine ⟨_, M1, M2, e1, e0, zRel_s hR (fun i h1 h2 => ?_) (fun j hj => ?_), fun i hi => ?_⟩
      · have a : i ≠ 57 := fun q => by rw [q] at h1; exact absurd h1 (by decide)
        have b : i ≠ 41 := fun q => by rw [q] at h1; exact absurd h1 (by decide)
        rw [q2 i a, g2 hq i b]
      · rw [q2 48 (by decide), g2 hq 48 (by decide)]
      · rw [q2 i (zn62 hi (by omega)), g2 hq i (zn62 hi (by omega)), hro i hi]
    | true =>
      rw [hq, if_pos rfl] at e1
      obtain ⟨M3, d0, d⟩ := s180 (L := L) (M := M2) hp8 (by rw [q2 48 (by decide), m48, p2])
      have b57 : wRw (M2 57) (wmo t n c) := by rw [hmo]; exact f3 (by rw [← hmc]; exact hq)
      rw [← hmc, hq, if_neg (show ¬ zb true = 0 by decide), d0, zbV_some, d.2.2.2.2.2 0 (by omega), b57 0 (by omega)] at e0
      rw [(g3 hq).2.2.2.2.2 0 (by omega)] at e1
      refine ⟨_, M1, M3, e1, e0, zRel_mv hb hc hm htx hr hnw.2 ho hfx p2 hp8 p3 p4 htd hkp hq (g3 hq) q2 b57 d, fun i hi => ?_⟩
      rw [d.1 i (zn62 hi (by omega)) (zn62 hi (by omega)) (zn62 hi (by omega)), q2 i (zn62 hi (by omega)), (g3 hq).1 i (zn62 hi (by omega)) (zn62 hi (by omega)) (zn62 hi (by omega)) (zn62 hi (by omega)), hro i hi]
  · refine ⟨-1, M, M, ?_, ?_, hR, hro⟩
    · rw [e108_0, s46r, zbI_some, hw, if_pos (by decide)]
    · rw [e181_0, s143r L _ 0 2 (by decide) (by decide), zbI_some, hw, if_pos (by decide)]
theorem k_rest (hk : zRo ro) (hR : zRel M) (hro : ∀ i, zNW ≤ i → M i = ro i) : zSame L ro 109 183 [some (.ref 0)] [some (.ref 48)] M := by
  obtain ⟨t, hb, hc, hm, htx, hnw, hfx, hps, htd, hkp⟩ := id hR
  obtain ⟨n, hr, ho⟩ := wst_of hnw.1
  have hr40 : wRw (M 40) n := fun j hj => by rw [hnw.2 j hj]; exact hr j hj
  obtain ⟨p, hp8, p1, p2, p3, p4⟩ := hps
  have hkm := zRo_of hk hro
  obtain ⟨M1, g1, g2, g3⟩ := s107 (L := L) hb hc hkm hr40 ho (c := 3) (by omega) hp8 hfx.1 hfx.2.1 p1
  have r1 : ∀ i, i ≠ 57 → zcp2 M1 52 0 57 0 6 i = M1 i := fun i hi => zcp2_row M1 hi
  have m52 : M1 52 = M 52 := by
    cases hq : wmC t n 3
    · exact g2 hq 52 (by decide)
    · exact (g3 hq).1 52 (by decide) (by decide) (by decide) (by decide)
  have m49 : M1 49 = M 49 := by
    cases hq : wmC t n 3
    · exact g2 hq 49 (by decide)
    · exact (g3 hq).1 49 (by decide) (by decide) (by decide) (by decide)
  have m48 : M1 48 = M 48 := by
    cases hq : wmC t n 3
    · exact g2 hq 48 (by decide)
    · exact (g3 hq).1 48 (by decide) (by decide) (by decide) (by decide)
  have r57 : wRw (zcp2 M1 52 0 57 0 6 57) n := fun j hj => by rw [zcp2_in _ (by omega) (by omega), Nat.zero_add, Nat.sub_zero, m52]; exact hr j hj
  obtain ⟨M2, f1, f2, f3⟩ := s182 (L := L) (M := zcp2 M1 52 0 57 0 6) hb (zTm_c hm (by rw [r1 49 (by decide), m49])) r57 ho
  have hmc : wmC t n 3 = decide (n 2 < t 11) := if_pos rfl
  have hmo : wmo t n 3 = wrs t n := if_pos rfl
  have q2 : ∀ i, i ≠ 57 → M2 i = M1 i := fun i hi => by rw [f2 i hi, r1 i hi]
  have e0 : zden (L + 1) 183 0 [some (.ref 48)] [] M1 = (if zb (decide (n 2 < t 11)) = 0 then some (some (.int (-2)), M2) else zbV (zden (L + 1) 180 0 [some (.ref 48), none] [] M2) (fun M4 => some (some (.int (M4 52 2)), M4))) := by
    rw [e183_0, show (0 : Int32) = nI 0 from rfl, s177_48_52_57 L (i := 0) (j := 0) (by omega) (by omega), zbV_some, f1, zbI_some]
  have e1 : zden (L + 1) 109 0 [some (.ref 0)] [] M = some (some (.int (if wmC t n 3 = true then M1 40 2 else -2)), M1) := by
    rw [e109_0, show zden (L + 1) 107 0 [some (.ref 0), some (.int 3)] [] M = _ from g1, zbI_some]
    cases hq : wmC t n 3
    · rw [if_pos (show zb false = 0 from rfl), e109_21, if_neg (by decide)]
    · rw [if_neg (show ¬ zb true = 0 by decide), show (2 : Int32) = nI 2 from rfl, s4_40, zbI_some, e109_21, zrd_nI (by omega), if_pos (by omega), if_pos rfl]
  cases hq : wmC t n 3 with
  | false =>
    rw [hq, if_neg (by decide)] at e1
    rw [← hmc, hq, if_pos (show zb false = 0 from rfl)] at e0
    refine ⟨_, M1, M2, e1, e0, zRel_s hR (fun i h1 h2 => ?_) (fun j hj => ?_), fun i hi => ?_⟩
    · have a : i ≠ 57 := fun q => by rw [q] at h1; exact absurd h1 (by decide)
      have b : i ≠ 41 := fun q => by rw [q] at h1; exact absurd h1 (by decide)
      rw [q2 i a, g2 hq i b]
    · rw [q2 48 (by decide), g2 hq 48 (by decide)]
    · rw [q2 i (zn62 hi (by omega)), g2 hq i (zn62 hi (by omega)), hro i hi]
  | true =>
    rw [hq, if_pos rfl] at e1
    obtain ⟨M3, d0, d⟩ := s180 (L := L) (M := M2) hp8 (by rw [q2 48 (by decide), m48, p2])
    have b57 : wRw (M2 57) (wmo t n 3) := by rw [hmo]; exact f3 (by rw [hmc] at hq; simpa using hq)
    rw [← hmc, hq, if_neg (show ¬ zb true = 0 by decide), d0, zbV_some, d.2.2.2.2.2 2 (by omega), b57 2 (by omega)] at e0
    rw [(g3 hq).2.2.2.2.2 2 (by omega)] at e1
    refine ⟨_, M1, M3, e1, e0, zRel_mv hb hc hm htx hr hnw.2 ho hfx p2 hp8 p3 p4 htd hkp hq (g3 hq) q2 b57 d, fun i hi => ?_⟩
    rw [d.1 i (zn62 hi (by omega)) (zn62 hi (by omega)) (zn62 hi (by omega)), q2 i (zn62 hi (by omega)), (g3 hq).1 i (zn62 hi (by omega)) (zn62 hi (by omega)) (zn62 hi (by omega)) (zn62 hi (by omega)), hro i hi]
end KR
