def zbeg (M : zM) (d : Int32) : zM := zput (zput (zput (zput (zfl M 40 6 0) 40 1 d) 40 2 (M 4 7)) 0 15 0) 43 3 0
def zbegM (M : zM) (d : Int32) : zM := zput (zput (zput (zput (zfl M 52 6 0) 52 1 d) 52 2 (M 49 11)) 48 6 0) 48 8 0
section KB
variable {L : Nat} {ro M : zM}
theorem s94 (M : zM) : zden (L + 1) 94 0 [some (.ref 0)] [] M = some (none, zput (zput M 0 15 0) 43 3 0) := by
  rw [e94_0, e14_43_0, zbV_some]
theorem s95_22 (d : Int32) (o : Option Value) (M : zM) : zden (L + 1) 95 22 [some (.ref 0), o] [.int d, .int 1, .ref 40] M = some (none, zput (zput (zput (zput M 40 1 d) 40 2 (M 4 7)) 0 15 0) 43 3 0) := by
  rw [e95_22, s5_40, zbV_some, show (1 : Int32) = nI 1 from rfl, zwr_nI (by omega) (by omega), s0_7, zbI_some, s5_40, zbV_some, show (2 : Int32) = nI 2 from rfl, zwr_nI (by omega) (by omega), s94, zbV_some, zput_o (i := 40) _ _ (Or.inl (by decide))]
theorem s95 (v : Int32) (M : zM) : zden (L + 1) 95 0 [some (.ref 0), some (.int v)] [] M = some (none, zbeg M (if v = 0 then 0 else 1)) := by
  rw [e95_0, s19_40, zbV_some]
  have e4 : zfl M 40 6 0 4 7 = M 4 7 := by rw [zfl_row M (by decide)]
  by_cases h : v = 0
  · rw [if_pos h, if_pos h, s95_22, e4]; rfl
  · rw [if_neg h, if_neg h, s95_22, e4]; rfl
theorem s142_l (v : Int32) (M : zM) : ∀ d k, d + k = 6 → zden (L + 1) 142 2 [some (.ref 48), some (.int v), some (.int (nI k))] [] (zfl M 52 k 0) = some (none, zput (zput (zput (zput (zfl M 52 6 0) 52 1 v) 52 2 ((zput (zfl M 52 6 0) 52 1 v) 49 11)) 48 6 0) 48 8 0) := by
  intro d
  induction d with
  | zero =>
    intro k hk
    have : k = 6 := by omega
    subst this
    rw [e142_2, if_neg (by decide)]
  | succ d ih =>
    intro k hk
    rw [e142_2, if_pos (zlt_6 (by omega)), if_pos ((zinb_nI (by omega)).mpr (by omega)), nI_clamp (by omega), zfl_s, nI_1]
    exact ih (k + 1) (by omega)
theorem s142 (v : Int32) (M : zM) : zden (L + 1) 142 0 [some (.ref 48), some (.int v), none] [] M = some (none, zbegM M v) := by
  rw [e142_0]
  have := s142_l (L := L) v M 6 0 (by omega)
  rw [zfl_0, zput_o (i := 52) _ _ (Or.inl (by decide)), zfl_row M (by decide)] at this
  exact this
theorem zbeg_nw {t : Nat → Nat} (d : Nat) (hd : d ≤ 1) (h4 : M 4 7 = nI (t 11)) (h49 : M 49 11 = nI (t 11)) : zNw t (zbegM (zbeg M (nI d)) (nI d)) := by
  have key : ∀ j, j < 6 → zbegM (zbeg M (nI d)) (nI d) 52 j = nI (if j = 1 then d else if j = 2 then t 11 else 0) ∧ zbegM (zbeg M (nI d)) (nI d) 40 j = nI (if j = 1 then d else if j = 2 then t 11 else 0) := by
    intro j hj
    match j, hj with
    | 0, _ => constructor <;> simp [zbegM, zbeg, zput, zfl, nI_0]
    | 1, _ => constructor <;> simp [zbegM, zbeg, zput, zfl]
    | 2, _ => constructor <;> simp [zbegM, zbeg, zput, zfl, h4, h49]
    | 3, _ => constructor <;> simp [zbegM, zbeg, zput, zfl, nI_0]
    | 4, _ => constructor <;> simp [zbegM, zbeg, zput, zfl, nI_0]
    | 5, _ => constructor <;> simp [zbegM, zbeg, zput, zfl, nI_0]
  refine ⟨⟨fun j => if j = 1 then d else if j = 2 then t 11 else 0, fun j hj => by rw [Nat.zero_add]; exact (key j hj).1, by simp, by simpa using hd, by simp, by simp, by simp⟩, fun j hj => by rw [(key j hj).1, (key j hj).2]⟩
theorem zbeg_ro {d e : Int32} (hro : ∀ i, zNW ≤ i → M i = ro i) : ∀ i, zNW ≤ i → zbegM (zbeg M d) e i = ro i :=
  zro_put (by decide) (zro_put (by decide) (zro_put (by decide) (zro_put (by decide) (zro_fl (by decide) (zro_put (by decide) (zro_put (by decide) (zro_put (by decide) (zro_put (by decide) (zro_fl (by decide) hro)))))))))
theorem zbeg_rel {t : Nat → Nat} (d : Nat) (hd : d ≤ 1) (hb : zTb t) (hc : zTc M 1 t) (hm : zTm M 49 t) (htx : zTx M) (hfx : zFx M) (hkp : zKp t M) : zRel (zbegM (zbeg M (nI d)) (nI d)) := by
  refine ⟨t, hb, zTc_c hc (by simp [zbegM, zbeg, zput_row, zfl_row]) (fun k h1 h2 => ?_), zTm_c hm (by simp [zbegM, zbeg, zput_row, zfl_row]), zTx_c htx (by simp [zbegM, zbeg, zput, zfl]) (by simp [zbegM, zbeg, zput, zfl]) (by simp [zbegM, zbeg, zput_row, zfl_row]) (by simp [zbegM, zbeg, zput_row, zfl_row]), zbeg_nw d hd (hc.2.1 7 (by omega)) (hm 11 (by omega)), zFx_c hfx (by simp [zbegM, zbeg, zput, zfl]) (by simp [zbegM, zbeg, zput, zfl]) (by simp [zbegM, zbeg, zput, zfl]) (by simp [zbegM, zbeg, zput, zfl]), zPs_0 (by simp [zbegM, zbeg, zput, zfl]) (by simp [zbegM, zbeg, zput, zfl]), zTd_0 (by simp [zbegM, zbeg, zput, zfl]) (by simp [zbegM, zbeg, zput, zfl]), zKp_c hkp (by simp [zbegM, zbeg, zput, zfl]) (by simp [zbegM, zbeg, zput, zfl]) (by simp [zbegM, zbeg, zput_row, zfl_row]) (by simp [zbegM, zbeg, zput_row, zfl_row])⟩
  unfold zbegM zbeg
  rw [zput_ne (by omega), zput_ne (by omega), zput_ne (by omega), zput_ne (by omega), zfl_row _ (by omega), zput_ne (by omega), zput_ne (by omega), zput_ne (by omega), zput_ne (by omega), zfl_row _ (by omega)]
theorem k_start (v : Int32) (hR : zRel M) (hro : ∀ i, zNW ≤ i → M i = ro i) : zSame L ro 105 171 [some (.ref 0), some (.int v)] [some (.ref 48), some (.int v)] M := by
  obtain ⟨t, hb, hc, hm, htx, hnw, hfx, hps, htd, hkp⟩ := id hR
  obtain ⟨d, hd, ed⟩ : ∃ d : Nat, d ≤ 1 ∧ (if v = 0 then (0 : Int32) else 1) = nI d := by
    by_cases h : v = 0
    · exact ⟨0, by omega, by rw [if_pos h]; rfl⟩
    · exact ⟨1, by omega, by rw [if_neg h]; rfl⟩
  refine ⟨nI (t 0), zbeg M (nI d), zbegM (zbeg M (nI d)) (nI d), ?_, ?_, zbeg_rel d hd hb hc hm htx hfx hkp, zbeg_ro hro⟩
  · rw [e105_0, s95, zbV_some, ed]
    have : zbeg M (nI d) 1 2 = nI (t 0) := by rw [← hc.1.1]; simp [zbeg, zput, zfl]
    rw [this]
  · have g : zbegM (zbeg M (nI d)) (nI d) 49 0 = nI (t 0) := by rw [← hm 0 (by omega)]; simp [zbegM, zbeg, zput, zfl]
    rw [e171_0]
    by_cases h : v = 0
    · rw [if_pos h] at ed
      rw [if_pos h, e171_10, ed, s142, zbV_some, g]
    · rw [if_neg h] at ed
      rw [if_neg h, e171_10, ed, s142, zbV_some, g]
end KB
