theorem zs1_ro {L : Nat} {en : zE} {lc lc' : zLo} {st st' : List Value} {M M' : zM} (h : zs1 L en lc st M = some (lc', st', M')) : ∀ i, zNW ≤ i → M' i = M i := by
  have hst : ∀ {ty : FieldType} {a : Nat} {j x : Int32} {st : List Value}, zsto L ty lc st M a j x = some (lc', st', M') → ∀ i, zNW ≤ i → M' i = M i := by
    intro ty a j x st h i hi
    unfold zsto at h
    split at h
    · split at h
      · rename_i hb
        have ha : a < zNW := by simpa using hb
        split at h
        · cases h
          exact zput_ne (by omega)
        · cases h
      · cases h
    · cases h
  have hld : ∀ {ty : FieldType} {a : Nat} {j : Int32} {st : List Value}, zld L ty lc st M a j = some (lc', st', M') → ∀ i, zNW ≤ i → M' i = M i := by
    intro ty a j st h i hi
    unfold zld at h
    split at h
    · split at h
      · cases h; rfl
      · cases h
    · cases h
  intro i hi
  unfold zs1 at h
  split at h
  all_goals first
    | (cases h; done)
    | (cases h; rfl)
    | exact hld h i hi
    | exact hst h i hi
    | (split at h <;> first | (cases h; rfl) | (split at h <;> first | (cases h; rfl) | (cases h; rename_i hb; exact zput_ne (by have hb2 : _ < zNW := (by simpa using hb); omega)) | cases h) | cases h)
theorem zrun_ro {L : Nat} : ∀ (n : Nat) {mi pc : Nat} {lc : zLo} {st : List Value} {M M' : zM} {v : Option Value}, zrun L n mi pc lc st M = some (v, M') → ∀ i, zNW ≤ i → M' i = M i
  | 0, _, _, _, _, _, _, _, h => by simp [zrun] at h
  | n + 1, mi, pc, lc, st, M, M', v, h => by
    intro i hi
    simp only [zrun] at h
    cases hf : zfetch (zcode mi) pc with
    | none => simp [hf] at h
    | some en =>
      simp only [hf] at h
      cases hs : zs1 L en lc st M with
      | some q =>
        simp only [hs] at h
        rw [zrun_ro n h i hi]
        exact zs1_ro (lc' := q.1) (st' := q.2.1) (M' := q.2.2) hs i hi
      | none =>
        simp only [hs] at h
        cases hc : zctl L (zret mi) en st with
        | none => simp [hc] at h
        | some o =>
          simp only [hc] at h
          rcases o with q | w | q
          · exact zrun_ro n h i hi
          · cases h; rfl
          · dsimp only at h
            cases hr : zrun L n q.1 0 (zini q.2.2.2.1 q.2.1) [] M with
            | none => simp [hr] at h
            | some r =>
              simp only [hr] at h
              cases hp : zpush q.2.2.2.2 r.1 q.2.2.1 with
              | none => simp [hp] at h
              | some st' =>
                simp only [hp] at h
                rw [zrun_ro n h i hi]
                exact zrun_ro n (v := r.1) (M' := r.2) hr i hi
theorem zden_ro {L mi pc : Nat} {lc : zLo} {st : List Value} {M M' : zM} {v : Option Value} (h : zden L mi pc lc st M = some (v, M')) : ∀ i, zNW ≤ i → M' i = M i := by
  obtain ⟨n, hn⟩ := zden_iff.mp h
  exact zrun_ro n hn
section KW
variable {L : Nat} {ro M : zM}
/-- a round of the law's loop -/
def zRnd (L : Nat) (ro M : zM) (i pc : Nat) : Prop := ∃ M2, zden (L + 1) 231 pc [some (.ref 62), some (.ref 0), some (.ref 48), some (.int (nI i))] [] M = zden (L + 1) 231 1488 [some (.ref 62), some (.ref 0), some (.ref 48), some (.int (nI i))] [] M2 ∧ zRel M2 ∧ ∀ j, zNW ≤ j → M2 j = ro j
theorem z_c0 {i : Nat} (hk : zRo ro) (hL : L ≤ 384) (hi : i + 6 ≤ L) (hR : zRel M) (hro : ∀ j, zNW ≤ j → M j = ro j) : zRnd L ro M i 212 := by
  have j1 : nI i + 1 = nI (i + 1) := nI_add i 1
  have z1 : zinb (nI (i + 1)) L = true := (zinb_nI (by omega)).mpr (by omega)
  have c1 : (nI (i + 1)).toNatClampNeg = i + 1 := nI_clamp (by omega)
  obtain ⟨r, M1, M2, h1, h2, h3, h4⟩ := k_write (L := L) (M 62 (i + 1)) hR hro
  have e62 : M1 62 = M 62 := zden_ro h1 62 (Nat.le_refl _)
  refine ⟨M2, ?_, h3, h4⟩
  simp only [e231_212, j1, z1, c1, if_true, if_false, h1, zbI_some, e62, h2]
theorem z_c1 {i : Nat} (hk : zRo ro) (hL : L ≤ 384) (hi : i + 6 ≤ L) (hR : zRel M) (hro : ∀ j, zNW ≤ j → M j = ro j) : zRnd L ro M i 235 := by
  obtain ⟨r, M1, M2, h1, h2, h3, h4⟩ := k_wipe (L := L)  hR hro
  have e62 : M1 62 = M 62 := zden_ro h1 62 (Nat.le_refl _)
  refine ⟨M2, ?_, h3, h4⟩
  simp only [e231_235, if_true, if_false, h1, zbI_some, e62, h2]
theorem z_c2 {i : Nat} (hk : zRo ro) (hL : L ≤ 384) (hi : i + 6 ≤ L) (hR : zRel M) (hro : ∀ j, zNW ≤ j → M j = ro j) : zRnd L ro M i 248 := by
  obtain ⟨r, M1, M2, h1, h2, h3, h4⟩ := k_fault (L := L) hk  hR hro
  have e62 : M1 62 = M 62 := zden_ro h1 62 (Nat.le_refl _)
  refine ⟨M2, ?_, h3, h4⟩
  simp only [e231_248, if_true, if_false, h1, zbI_some, e62, h2]
theorem z_c3 {i : Nat} (hk : zRo ro) (hL : L ≤ 384) (hi : i + 6 ≤ L) (hR : zRel M) (hro : ∀ j, zNW ≤ j → M j = ro j) : zRnd L ro M i 261 := by
  obtain ⟨r, M1, M2, h1, h2, h3, h4⟩ := k_lay (L := L) hk  hR hro
  have e62 : M1 62 = M 62 := zden_ro h1 62 (Nat.le_refl _)
  refine ⟨M2, ?_, h3, h4⟩
  simp only [e231_261, if_true, if_false, h1, zbI_some, e62, h2]
theorem z_c4 {i : Nat} (hk : zRo ro) (hL : L ≤ 384) (hi : i + 6 ≤ L) (hR : zRel M) (hro : ∀ j, zNW ≤ j → M j = ro j) : zRnd L ro M i 274 := by
  have j1 : nI i + 1 = nI (i + 1) := nI_add i 1
  have z1 : zinb (nI (i + 1)) L = true := (zinb_nI (by omega)).mpr (by omega)
  have c1 : (nI (i + 1)).toNatClampNeg = i + 1 := nI_clamp (by omega)
  have j2 : nI i + 2 = nI (i + 2) := nI_add i 2
  have z2 : zinb (nI (i + 2)) L = true := (zinb_nI (by omega)).mpr (by omega)
  have c2 : (nI (i + 2)).toNatClampNeg = i + 2 := nI_clamp (by omega)
  obtain ⟨r, M1, M2, h1, h2, h3, h4⟩ := k_step (L := L) (M 62 (i + 1)) (M 62 (i + 2)) hR hro
  have e62 : M1 62 = M 62 := zden_ro h1 62 (Nat.le_refl _)
  refine ⟨M2, ?_, h3, h4⟩
  simp only [e231_274, j1, j2, z1, z2, c1, c2, if_true, if_false, h1, zbI_some, e62, h2]
theorem z_c5 {i : Nat} (hk : zRo ro) (hL : L ≤ 384) (hi : i + 6 ≤ L) (hR : zRel M) (hro : ∀ j, zNW ≤ j → M j = ro j) : zRnd L ro M i 307 := by
  have j1 : nI i + 1 = nI (i + 1) := nI_add i 1
  have z1 : zinb (nI (i + 1)) L = true := (zinb_nI (by omega)).mpr (by omega)
  have c1 : (nI (i + 1)).toNatClampNeg = i + 1 := nI_clamp (by omega)
  obtain ⟨r, M1, M2, h1, h2, h3, h4⟩ := k_pram (L := L) (M 62 (i + 1)) hR hro
  have e62 : M1 62 = M 62 := zden_ro h1 62 (Nat.le_refl _)
  refine ⟨M2, ?_, h3, h4⟩
  simp only [e231_307, j1, z1, c1, if_true, if_false, h1, zbI_some, e62, h2]
theorem z_c6 {i : Nat} (hk : zRo ro) (hL : L ≤ 384) (hi : i + 6 ≤ L) (hR : zRel M) (hro : ∀ j, zNW ≤ j → M j = ro j) : zRnd L ro M i 330 := by
  have j1 : nI i + 1 = nI (i + 1) := nI_add i 1
  have z1 : zinb (nI (i + 1)) L = true := (zinb_nI (by omega)).mpr (by omega)
  have c1 : (nI (i + 1)).toNatClampNeg = i + 1 := nI_clamp (by omega)
  have j2 : nI i + 2 = nI (i + 2) := nI_add i 2
  have z2 : zinb (nI (i + 2)) L = true := (zinb_nI (by omega)).mpr (by omega)
  have c2 : (nI (i + 2)).toNatClampNeg = i + 2 := nI_clamp (by omega)
  obtain ⟨r, M1, M2, h1, h2, h3, h4⟩ := k_helper (L := L) (M 62 (i + 1)) (M 62 (i + 2)) hR hro
  have e62 : M1 62 = M 62 := zden_ro h1 62 (Nat.le_refl _)
  refine ⟨M2, ?_, h3, h4⟩
  simp only [e231_330, j1, j2, z1, z2, c1, c2, if_true, if_false, h1, zbI_some, e62, h2]
theorem z_c7 {i : Nat} (hk : zRo ro) (hL : L ≤ 384) (hi : i + 6 ≤ L) (hR : zRel M) (hro : ∀ j, zNW ≤ j → M j = ro j) : zRnd L ro M i 363 := by
  have j1 : nI i + 1 = nI (i + 1) := nI_add i 1
  have z1 : zinb (nI (i + 1)) L = true := (zinb_nI (by omega)).mpr (by omega)
  have c1 : (nI (i + 1)).toNatClampNeg = i + 1 := nI_clamp (by omega)
  obtain ⟨r, M1, M2, h1, h2, h3, h4⟩ := k_passers (L := L) (M 62 (i + 1)) hR hro
  have e62 : M1 62 = M 62 := zden_ro h1 62 (Nat.le_refl _)
  refine ⟨M2, ?_, h3, h4⟩
  simp only [e231_363, j1, z1, c1, if_true, if_false, h1, zbI_some, e62, h2]
theorem z_c8 {i : Nat} (hk : zRo ro) (hL : L ≤ 384) (hi : i + 6 ≤ L) (hR : zRel M) (hro : ∀ j, zNW ≤ j → M j = ro j) : zRnd L ro M i 386 := by
  have j1 : nI i + 1 = nI (i + 1) := nI_add i 1
  have z1 : zinb (nI (i + 1)) L = true := (zinb_nI (by omega)).mpr (by omega)
  have c1 : (nI (i + 1)).toNatClampNeg = i + 1 := nI_clamp (by omega)
  have j2 : nI i + 2 = nI (i + 2) := nI_add i 2
  have z2 : zinb (nI (i + 2)) L = true := (zinb_nI (by omega)).mpr (by omega)
  have c2 : (nI (i + 2)).toNatClampNeg = i + 2 := nI_clamp (by omega)
  obtain ⟨r, M1, M2, h1, h2, h3, h4⟩ := k_station (L := L) (M 62 (i + 1)) (M 62 (i + 2)) hR hro
  have e62 : M1 62 = M 62 := zden_ro h1 62 (Nat.le_refl _)
  refine ⟨M2, ?_, h3, h4⟩
  simp only [e231_386, j1, j2, z1, z2, c1, c2, if_true, if_false, h1, zbI_some, e62, h2]
theorem z_c9 {i : Nat} (hk : zRo ro) (hL : L ≤ 384) (hi : i + 6 ≤ L) (hR : zRel M) (hro : ∀ j, zNW ≤ j → M j = ro j) : zRnd L ro M i 419 := by
  have j1 : nI i + 1 = nI (i + 1) := nI_add i 1
  have z1 : zinb (nI (i + 1)) L = true := (zinb_nI (by omega)).mpr (by omega)
  have c1 : (nI (i + 1)).toNatClampNeg = i + 1 := nI_clamp (by omega)
  by_cases hz : M 62 (i + 1) = 0
  · obtain ⟨r, M1, M2, h1, h2, h3, h4⟩ := k_start (L := L) 0 hR hro
    have e62 : M1 62 = M 62 := zden_ro h1 62 (Nat.le_refl _)
    refine ⟨M2, ?_, h3, h4⟩
    simp only [e231_419, e231_433, e231_450, j1, z1, c1, hz, if_true, if_false, h1, zbI_some, e62, h2]
  · obtain ⟨r, M1, M2, h1, h2, h3, h4⟩ := k_start (L := L) 1 hR hro
    have e62 : M1 62 = M 62 := zden_ro h1 62 (Nat.le_refl _)
    refine ⟨M2, ?_, h3, h4⟩
    simp only [e231_419, e231_433, e231_450, j1, z1, c1, hz, if_true, if_false, h1, zbI_some, e62, h2]
theorem z_c10 {i : Nat} (hk : zRo ro) (hL : L ≤ 384) (hi : i + 6 ≤ L) (hR : zRel M) (hro : ∀ j, zNW ≤ j → M j = ro j) : zRnd L ro M i 458 := by
  have j1 : nI i + 1 = nI (i + 1) := nI_add i 1
  have z1 : zinb (nI (i + 1)) L = true := (zinb_nI (by omega)).mpr (by omega)
  have c1 : (nI (i + 1)).toNatClampNeg = i + 1 := nI_clamp (by omega)
  have j2 : nI i + 2 = nI (i + 2) := nI_add i 2
  have z2 : zinb (nI (i + 2)) L = true := (zinb_nI (by omega)).mpr (by omega)
  have c2 : (nI (i + 2)).toNatClampNeg = i + 2 := nI_clamp (by omega)
  have j3 : nI i + 3 = nI (i + 3) := nI_add i 3
  have z3 : zinb (nI (i + 3)) L = true := (zinb_nI (by omega)).mpr (by omega)
  have c3 : (nI (i + 3)).toNatClampNeg = i + 3 := nI_clamp (by omega)
  have j4 : nI i + 4 = nI (i + 4) := nI_add i 4
  have z4 : zinb (nI (i + 4)) L = true := (zinb_nI (by omega)).mpr (by omega)
  have c4 : (nI (i + 4)).toNatClampNeg = i + 4 := nI_clamp (by omega)
  by_cases hz : M 62 (i + 3) = 0
  · obtain ⟨r, M1, M2, h1, h2, h3, h4⟩ := k_force (L := L) hk (M 62 (i + 1)) (M 62 (i + 2)) 0 (M 62 (i + 4)) hR hro
    have e62 : M1 62 = M 62 := zden_ro h1 62 (Nat.le_refl _)
    refine ⟨M2, ?_, h3, h4⟩
    simp only [e231_458, e231_482, e231_514, j1, j2, j3, j4, z1, z2, z3, z4, c1, c2, c3, c4, hz, if_true, if_false, h1, zbI_some, e62, h2]
  · obtain ⟨r, M1, M2, h1, h2, h3, h4⟩ := k_force (L := L) hk (M 62 (i + 1)) (M 62 (i + 2)) 1 (M 62 (i + 4)) hR hro
    have e62 : M1 62 = M 62 := zden_ro h1 62 (Nat.le_refl _)
    refine ⟨M2, ?_, h3, h4⟩
    simp only [e231_458, e231_482, e231_514, j1, j2, j3, j4, z1, z2, z3, z4, c1, c2, c3, c4, hz, if_true, if_false, h1, zbI_some, e62, h2]
theorem z_c11 {i : Nat} (hk : zRo ro) (hL : L ≤ 384) (hi : i + 6 ≤ L) (hR : zRel M) (hro : ∀ j, zNW ≤ j → M j = ro j) : zRnd L ro M i 527 := by
  have j1 : nI i + 1 = nI (i + 1) := nI_add i 1
  have z1 : zinb (nI (i + 1)) L = true := (zinb_nI (by omega)).mpr (by omega)
  have c1 : (nI (i + 1)).toNatClampNeg = i + 1 := nI_clamp (by omega)
  obtain ⟨r, M1, M2, h1, h2, h3, h4⟩ := k_go (L := L) hk (M 62 (i + 1)) hR hro
  have e62 : M1 62 = M 62 := zden_ro h1 62 (Nat.le_refl _)
  refine ⟨M2, ?_, h3, h4⟩
  simp only [e231_527, j1, z1, c1, if_true, if_false, h1, zbI_some, e62, h2]
theorem z_c12 {i : Nat} (hk : zRo ro) (hL : L ≤ 384) (hi : i + 6 ≤ L) (hR : zRel M) (hro : ∀ j, zNW ≤ j → M j = ro j) : zRnd L ro M i 550 := by
  obtain ⟨r, M1, M2, h1, h2, h3, h4⟩ := k_rest (L := L) hk  hR hro
  have e62 : M1 62 = M 62 := zden_ro h1 62 (Nat.le_refl _)
  refine ⟨M2, ?_, h3, h4⟩
  simp only [e231_550, if_true, if_false, h1, zbI_some, e62, h2]
theorem z_c13 {i : Nat} (hk : zRo ro) (hL : L ≤ 384) (hi : i + 6 ≤ L) (hR : zRel M) (hro : ∀ j, zNW ≤ j → M j = ro j) : zRnd L ro M i 563 := by
  obtain ⟨r, M1, M2, h1, h2, h3, h4⟩ := k_undo (L := L)  hR hro
  have e62 : M1 62 = M 62 := zden_ro h1 62 (Nat.le_refl _)
  refine ⟨M2, ?_, h3, h4⟩
  simp only [e231_563, if_true, if_false, h1, zbI_some, e62, h2]
theorem z_c14 {i : Nat} (hk : zRo ro) (hL : L ≤ 384) (hi : i + 6 ≤ L) (hR : zRel M) (hro : ∀ j, zNW ≤ j → M j = ro j) : zRnd L ro M i 576 := by
  have j1 : nI i + 1 = nI (i + 1) := nI_add i 1
  have z1 : zinb (nI (i + 1)) L = true := (zinb_nI (by omega)).mpr (by omega)
  have c1 : (nI (i + 1)).toNatClampNeg = i + 1 := nI_clamp (by omega)
  obtain ⟨r, M1, M2, h1, h2, h3, h4⟩ := k_stands (L := L) (M 62 (i + 1)) hR hro
  have e62 : M1 62 = M 62 := zden_ro h1 62 (Nat.le_refl _)
  refine ⟨M2, ?_, h3, h4⟩
  simp only [e231_576, j1, z1, c1, if_true, if_false, h1, zbI_some, e62, h2]
theorem z_c15 {i : Nat} (hk : zRo ro) (hL : L ≤ 384) (hi : i + 6 ≤ L) (hR : zRel M) (hro : ∀ j, zNW ≤ j → M j = ro j) : zRnd L ro M i 599 := by
  have j1 : nI i + 1 = nI (i + 1) := nI_add i 1
  have z1 : zinb (nI (i + 1)) L = true := (zinb_nI (by omega)).mpr (by omega)
  have c1 : (nI (i + 1)).toNatClampNeg = i + 1 := nI_clamp (by omega)
  obtain ⟨r, M1, M2, h1, h2, h3, h4⟩ := k_tell (L := L) (M 62 (i + 1)) hR hro
  have e62 : M1 62 = M 62 := zden_ro h1 62 (Nat.le_refl _)
  refine ⟨M2, ?_, h3, h4⟩
  simp only [e231_599, j1, z1, c1, if_true, if_false, h1, zbI_some, e62, h2]
theorem z_c16 {i : Nat} (hk : zRo ro) (hL : L ≤ 384) (hi : i + 6 ≤ L) (hR : zRel M) (hro : ∀ j, zNW ≤ j → M j = ro j) : zRnd L ro M i 622 := by
  obtain ⟨r, M1, M2, h1, h2, h3, h4⟩ := k_noRow (L := L)  hR hro
  have e62 : M1 62 = M 62 := zden_ro h1 62 (Nat.le_refl _)
  refine ⟨M2, ?_, h3, h4⟩
  simp only [e231_622, if_true, if_false, h1, zbI_some, e62, h2]
theorem z_c17 {i : Nat} (hk : zRo ro) (hL : L ≤ 384) (hi : i + 6 ≤ L) (hR : zRel M) (hro : ∀ j, zNW ≤ j → M j = ro j) : zRnd L ro M i 635 := by
  obtain ⟨r, M1, M2, h1, h2, h3, h4⟩ := k_judge (L := L) hk  hR hro
  have e62 : M1 62 = M 62 := zden_ro h1 62 (Nat.le_refl _)
  refine ⟨M2, ?_, h3, h4⟩
  simp only [e231_635, if_true, if_false, h1, zbI_some, e62, h2]
theorem z_c18 {i : Nat} (hk : zRo ro) (hL : L ≤ 384) (hi : i + 6 ≤ L) (hR : zRel M) (hro : ∀ j, zNW ≤ j → M j = ro j) : zRnd L ro M i 648 := by
  have j1 : nI i + 1 = nI (i + 1) := nI_add i 1
  have z1 : zinb (nI (i + 1)) L = true := (zinb_nI (by omega)).mpr (by omega)
  have c1 : (nI (i + 1)).toNatClampNeg = i + 1 := nI_clamp (by omega)
  have j2 : nI i + 2 = nI (i + 2) := nI_add i 2
  have z2 : zinb (nI (i + 2)) L = true := (zinb_nI (by omega)).mpr (by omega)
  have c2 : (nI (i + 2)).toNatClampNeg = i + 2 := nI_clamp (by omega)
  have j3 : nI i + 3 = nI (i + 3) := nI_add i 3
  have z3 : zinb (nI (i + 3)) L = true := (zinb_nI (by omega)).mpr (by omega)
  have c3 : (nI (i + 3)).toNatClampNeg = i + 3 := nI_clamp (by omega)
  by_cases hz : M 62 (i + 2) = 0
  · obtain ⟨r, M1, M2, h1, h2, h3, h4⟩ := k_best (L := L) hk (M 62 (i + 1)) 0 (M 62 (i + 3)) hR hro
    have e62 : M1 62 = M 62 := zden_ro h1 62 (Nat.le_refl _)
    refine ⟨M2, ?_, h3, h4⟩
    simp only [e231_648, e231_667, e231_694, j1, j2, j3, z1, z2, z3, c1, c2, c3, hz, if_true, if_false, h1, zbI_some, e62, h2]
  · obtain ⟨r, M1, M2, h1, h2, h3, h4⟩ := k_best (L := L) hk (M 62 (i + 1)) 1 (M 62 (i + 3)) hR hro
    have e62 : M1 62 = M 62 := zden_ro h1 62 (Nat.le_refl _)
    refine ⟨M2, ?_, h3, h4⟩
    simp only [e231_648, e231_667, e231_694, j1, j2, j3, z1, z2, z3, c1, c2, c3, hz, if_true, if_false, h1, zbI_some, e62, h2]
theorem z_c19 {i : Nat} (hk : zRo ro) (hL : L ≤ 384) (hi : i + 6 ≤ L) (hR : zRel M) (hro : ∀ j, zNW ≤ j → M j = ro j) : zRnd L ro M i 707 := by
  have j1 : nI i + 1 = nI (i + 1) := nI_add i 1
  have z1 : zinb (nI (i + 1)) L = true := (zinb_nI (by omega)).mpr (by omega)
  have c1 : (nI (i + 1)).toNatClampNeg = i + 1 := nI_clamp (by omega)
  by_cases hz : M 62 (i + 1) = 0
  · obtain ⟨r, M1, M2, h1, h2, h3, h4⟩ := k_asleep (L := L) hk 0 hR hro
    have e62 : M1 62 = M 62 := zden_ro h1 62 (Nat.le_refl _)
    refine ⟨M2, ?_, h3, h4⟩
    simp only [e231_707, e231_721, e231_738, j1, z1, c1, hz, if_true, if_false, h1, zbI_some, e62, h2]
  · obtain ⟨r, M1, M2, h1, h2, h3, h4⟩ := k_asleep (L := L) hk 1 hR hro
    have e62 : M1 62 = M 62 := zden_ro h1 62 (Nat.le_refl _)
    refine ⟨M2, ?_, h3, h4⟩
    simp only [e231_707, e231_721, e231_738, j1, z1, c1, hz, if_true, if_false, h1, zbI_some, e62, h2]
theorem z_c20 {i : Nat} (hk : zRo ro) (hL : L ≤ 384) (hi : i + 6 ≤ L) (hR : zRel M) (hro : ∀ j, zNW ≤ j → M j = ro j) : zRnd L ro M i 746 := by
  have j1 : nI i + 1 = nI (i + 1) := nI_add i 1
  have z1 : zinb (nI (i + 1)) L = true := (zinb_nI (by omega)).mpr (by omega)
  have c1 : (nI (i + 1)).toNatClampNeg = i + 1 := nI_clamp (by omega)
  have j2 : nI i + 2 = nI (i + 2) := nI_add i 2
  have z2 : zinb (nI (i + 2)) L = true := (zinb_nI (by omega)).mpr (by omega)
  have c2 : (nI (i + 2)).toNatClampNeg = i + 2 := nI_clamp (by omega)
  obtain ⟨r, M1, M2, h1, h2, h3, h4⟩ := k_ends (L := L) (M 62 (i + 1)) (M 62 (i + 2)) hR hro
  have e62 : M1 62 = M 62 := zden_ro h1 62 (Nat.le_refl _)
  refine ⟨M2, ?_, h3, h4⟩
  simp only [e231_746, j1, j2, z1, z2, c1, c2, if_true, if_false, h1, zbI_some, e62, h2]
theorem z_c21 {i : Nat} (hk : zRo ro) (hL : L ≤ 384) (hi : i + 6 ≤ L) (hR : zRel M) (hro : ∀ j, zNW ≤ j → M j = ro j) : zRnd L ro M i 779 := by
  obtain ⟨r, M1, M2, h1, h2, h3, h4⟩ := k_mate (L := L)  hR hro
  have e62 : M1 62 = M 62 := zden_ro h1 62 (Nat.le_refl _)
  refine ⟨M2, ?_, h3, h4⟩
  simp only [e231_779, if_true, if_false, h1, zbI_some, e62, h2]
theorem z_c22 {i : Nat} (hk : zRo ro) (hL : L ≤ 384) (hi : i + 6 ≤ L) (hR : zRel M) (hro : ∀ j, zNW ≤ j → M j = ro j) : zRnd L ro M i 792 := by
  have j1 : nI i + 1 = nI (i + 1) := nI_add i 1
  have z1 : zinb (nI (i + 1)) L = true := (zinb_nI (by omega)).mpr (by omega)
  have c1 : (nI (i + 1)).toNatClampNeg = i + 1 := nI_clamp (by omega)
  have j2 : nI i + 2 = nI (i + 2) := nI_add i 2
  have z2 : zinb (nI (i + 2)) L = true := (zinb_nI (by omega)).mpr (by omega)
  have c2 : (nI (i + 2)).toNatClampNeg = i + 2 := nI_clamp (by omega)
  obtain ⟨r, M1, M2, h1, h2, h3, h4⟩ := k_time (L := L) (M 62 (i + 1)) (M 62 (i + 2)) hR hro
  have e62 : M1 62 = M 62 := zden_ro h1 62 (Nat.le_refl _)
  refine ⟨M2, ?_, h3, h4⟩
  simp only [e231_792, j1, j2, z1, z2, c1, c2, if_true, if_false, h1, zbL_some, lgc_eq.mpr rfl, e62, h2]
theorem z_c23 {i : Nat} (hk : zRo ro) (hL : L ≤ 384) (hi : i + 6 ≤ L) (hR : zRel M) (hro : ∀ j, zNW ≤ j → M j = ro j) : zRnd L ro M i 826 := by
  have j1 : nI i + 1 = nI (i + 1) := nI_add i 1
  have z1 : zinb (nI (i + 1)) L = true := (zinb_nI (by omega)).mpr (by omega)
  have c1 : (nI (i + 1)).toNatClampNeg = i + 1 := nI_clamp (by omega)
  have j2 : nI i + 2 = nI (i + 2) := nI_add i 2
  have z2 : zinb (nI (i + 2)) L = true := (zinb_nI (by omega)).mpr (by omega)
  have c2 : (nI (i + 2)).toNatClampNeg = i + 2 := nI_clamp (by omega)
  by_cases hz : M 62 (i + 2) = 0
  · obtain ⟨r, M1, M2, h1, h2, h3, h4⟩ := k_some (L := L) (M 62 (i + 1)) 0 hR hro
    have e62 : M1 62 = M 62 := zden_ro h1 62 (Nat.le_refl _)
    refine ⟨M2, ?_, h3, h4⟩
    simp only [e231_826, e231_845, e231_867, j1, j2, z1, z2, c1, c2, hz, if_true, if_false, h1, zbI_some, e62, h2]
  · obtain ⟨r, M1, M2, h1, h2, h3, h4⟩ := k_some (L := L) (M 62 (i + 1)) 1 hR hro
    have e62 : M1 62 = M 62 := zden_ro h1 62 (Nat.le_refl _)
    refine ⟨M2, ?_, h3, h4⟩
    simp only [e231_826, e231_845, e231_867, j1, j2, z1, z2, c1, c2, hz, if_true, if_false, h1, zbI_some, e62, h2]
theorem z_c24 {i : Nat} (hk : zRo ro) (hL : L ≤ 384) (hi : i + 6 ≤ L) (hR : zRel M) (hro : ∀ j, zNW ≤ j → M j = ro j) : zRnd L ro M i 875 := by
  obtain ⟨r, M1, M2, h1, h2, h3, h4⟩ := k_few (L := L)  hR hro
  have e62 : M1 62 = M 62 := zden_ro h1 62 (Nat.le_refl _)
  refine ⟨M2, ?_, h3, h4⟩
  simp only [e231_875, if_true, if_false, h1, zbI_some, e62, h2]
theorem z_c25 {i : Nat} (hk : zRo ro) (hL : L ≤ 384) (hi : i + 6 ≤ L) (hR : zRel M) (hro : ∀ j, zNW ≤ j → M j = ro j) : zRnd L ro M i 888 := by
  have j1 : nI i + 1 = nI (i + 1) := nI_add i 1
  have z1 : zinb (nI (i + 1)) L = true := (zinb_nI (by omega)).mpr (by omega)
  have c1 : (nI (i + 1)).toNatClampNeg = i + 1 := nI_clamp (by omega)
  have j2 : nI i + 2 = nI (i + 2) := nI_add i 2
  have z2 : zinb (nI (i + 2)) L = true := (zinb_nI (by omega)).mpr (by omega)
  have c2 : (nI (i + 2)).toNatClampNeg = i + 2 := nI_clamp (by omega)
  have j3 : nI i + 3 = nI (i + 3) := nI_add i 3
  have z3 : zinb (nI (i + 3)) L = true := (zinb_nI (by omega)).mpr (by omega)
  have c3 : (nI (i + 3)).toNatClampNeg = i + 3 := nI_clamp (by omega)
  by_cases hz : M 62 (i + 3) = 0
  · obtain ⟨r, M1, M2, h1, h2, h3, h4⟩ := k_within (L := L) (M 62 (i + 1)) (M 62 (i + 2)) 0 hR hro
    have e62 : M1 62 = M 62 := zden_ro h1 62 (Nat.le_refl _)
    refine ⟨M2, ?_, h3, h4⟩
    simp only [e231_888, e231_912, e231_939, j1, j2, j3, z1, z2, z3, c1, c2, c3, hz, if_true, if_false, h1, zbI_some, e62, h2]
  · obtain ⟨r, M1, M2, h1, h2, h3, h4⟩ := k_within (L := L) (M 62 (i + 1)) (M 62 (i + 2)) 1 hR hro
    have e62 : M1 62 = M 62 := zden_ro h1 62 (Nat.le_refl _)
    refine ⟨M2, ?_, h3, h4⟩
    simp only [e231_888, e231_912, e231_939, j1, j2, j3, z1, z2, z3, c1, c2, c3, hz, if_true, if_false, h1, zbI_some, e62, h2]
theorem z_c26 {i : Nat} (hk : zRo ro) (hL : L ≤ 384) (hi : i + 6 ≤ L) (hR : zRel M) (hro : ∀ j, zNW ≤ j → M j = ro j) : zRnd L ro M i 947 := by
  have j1 : nI i + 1 = nI (i + 1) := nI_add i 1
  have z1 : zinb (nI (i + 1)) L = true := (zinb_nI (by omega)).mpr (by omega)
  have c1 : (nI (i + 1)).toNatClampNeg = i + 1 := nI_clamp (by omega)
  by_cases hz : M 62 (i + 1) = 0
  · obtain ⟨r, M1, M2, h1, h2, h3, h4⟩ := k_rush (L := L) 0 hR hro
    have e62 : M1 62 = M 62 := zden_ro h1 62 (Nat.le_refl _)
    refine ⟨M2, ?_, h3, h4⟩
    simp only [e231_947, e231_961, e231_978, j1, z1, c1, hz, if_true, if_false, h1, zbI_some, e62, h2]
  · obtain ⟨r, M1, M2, h1, h2, h3, h4⟩ := k_rush (L := L) 1 hR hro
    have e62 : M1 62 = M 62 := zden_ro h1 62 (Nat.le_refl _)
    refine ⟨M2, ?_, h3, h4⟩
    simp only [e231_947, e231_961, e231_978, j1, z1, c1, hz, if_true, if_false, h1, zbI_some, e62, h2]
theorem z_c27 {i : Nat} (hk : zRo ro) (hL : L ≤ 384) (hi : i + 6 ≤ L) (hR : zRel M) (hro : ∀ j, zNW ≤ j → M j = ro j) : zRnd L ro M i 986 := by
  have j1 : nI i + 1 = nI (i + 1) := nI_add i 1
  have z1 : zinb (nI (i + 1)) L = true := (zinb_nI (by omega)).mpr (by omega)
  have c1 : (nI (i + 1)).toNatClampNeg = i + 1 := nI_clamp (by omega)
  have j2 : nI i + 2 = nI (i + 2) := nI_add i 2
  have z2 : zinb (nI (i + 2)) L = true := (zinb_nI (by omega)).mpr (by omega)
  have c2 : (nI (i + 2)).toNatClampNeg = i + 2 := nI_clamp (by omega)
  have j3 : nI i + 3 = nI (i + 3) := nI_add i 3
  have z3 : zinb (nI (i + 3)) L = true := (zinb_nI (by omega)).mpr (by omega)
  have c3 : (nI (i + 3)).toNatClampNeg = i + 3 := nI_clamp (by omega)
  by_cases hz : M 62 (i + 3) = 0
  · obtain ⟨r, M1, M2, h1, h2, h3, h4⟩ := k_await (L := L) (M 62 (i + 1)) (M 62 (i + 2)) 0 hR hro
    have e62 : M1 62 = M 62 := zden_ro h1 62 (Nat.le_refl _)
    refine ⟨M2, ?_, h3, h4⟩
    simp only [e231_986, e231_1010, e231_1037, j1, j2, j3, z1, z2, z3, c1, c2, c3, hz, if_true, if_false, h1, zbI_some, e62, h2]
  · obtain ⟨r, M1, M2, h1, h2, h3, h4⟩ := k_await (L := L) (M 62 (i + 1)) (M 62 (i + 2)) 1 hR hro
    have e62 : M1 62 = M 62 := zden_ro h1 62 (Nat.le_refl _)
    refine ⟨M2, ?_, h3, h4⟩
    simp only [e231_986, e231_1010, e231_1037, j1, j2, j3, z1, z2, z3, c1, c2, c3, hz, if_true, if_false, h1, zbI_some, e62, h2]
theorem z_c28 {i : Nat} (hk : zRo ro) (hL : L ≤ 384) (hi : i + 6 ≤ L) (hR : zRel M) (hro : ∀ j, zNW ≤ j → M j = ro j) : zRnd L ro M i 1045 := by
  have j1 : nI i + 1 = nI (i + 1) := nI_add i 1
  have z1 : zinb (nI (i + 1)) L = true := (zinb_nI (by omega)).mpr (by omega)
  have c1 : (nI (i + 1)).toNatClampNeg = i + 1 := nI_clamp (by omega)
  have j2 : nI i + 2 = nI (i + 2) := nI_add i 2
  have z2 : zinb (nI (i + 2)) L = true := (zinb_nI (by omega)).mpr (by omega)
  have c2 : (nI (i + 2)).toNatClampNeg = i + 2 := nI_clamp (by omega)
  have j3 : nI i + 3 = nI (i + 3) := nI_add i 3
  have z3 : zinb (nI (i + 3)) L = true := (zinb_nI (by omega)).mpr (by omega)
  have c3 : (nI (i + 3)).toNatClampNeg = i + 3 := nI_clamp (by omega)
  by_cases hz : M 62 (i + 2) = 0
  · obtain ⟨r, M1, M2, h1, h2, h3, h4⟩ := k_out (L := L) hk (M 62 (i + 1)) 0 (M 62 (i + 3)) hR hro
    have e62 : M1 62 = M 62 := zden_ro h1 62 (Nat.le_refl _)
    refine ⟨M2, ?_, h3, h4⟩
    simp only [e231_1045, e231_1064, e231_1091, j1, j2, j3, z1, z2, z3, c1, c2, c3, hz, if_true, if_false, h1, zbI_some, e62, h2]
  · obtain ⟨r, M1, M2, h1, h2, h3, h4⟩ := k_out (L := L) hk (M 62 (i + 1)) 1 (M 62 (i + 3)) hR hro
    have e62 : M1 62 = M 62 := zden_ro h1 62 (Nat.le_refl _)
    refine ⟨M2, ?_, h3, h4⟩
    simp only [e231_1045, e231_1064, e231_1091, j1, j2, j3, z1, z2, z3, c1, c2, c3, hz, if_true, if_false, h1, zbI_some, e62, h2]
theorem z_c29 {i : Nat} (hk : zRo ro) (hL : L ≤ 384) (hi : i + 6 ≤ L) (hR : zRel M) (hro : ∀ j, zNW ≤ j → M j = ro j) : zRnd L ro M i 1104 := by
  have j1 : nI i + 1 = nI (i + 1) := nI_add i 1
  have z1 : zinb (nI (i + 1)) L = true := (zinb_nI (by omega)).mpr (by omega)
  have c1 : (nI (i + 1)).toNatClampNeg = i + 1 := nI_clamp (by omega)
  have j2 : nI i + 2 = nI (i + 2) := nI_add i 2
  have z2 : zinb (nI (i + 2)) L = true := (zinb_nI (by omega)).mpr (by omega)
  have c2 : (nI (i + 2)).toNatClampNeg = i + 2 := nI_clamp (by omega)
  have j3 : nI i + 3 = nI (i + 3) := nI_add i 3
  have z3 : zinb (nI (i + 3)) L = true := (zinb_nI (by omega)).mpr (by omega)
  have c3 : (nI (i + 3)).toNatClampNeg = i + 3 := nI_clamp (by omega)
  obtain ⟨r, M1, M2, h1, h2, h3, h4⟩ := k_travel (L := L) (M 62 (i + 1)) (M 62 (i + 2)) (M 62 (i + 3)) hR hro
  have e62 : M1 62 = M 62 := zden_ro h1 62 (Nat.le_refl _)
  refine ⟨M2, ?_, h3, h4⟩
  simp only [e231_1104, j1, j2, j3, z1, z2, z3, c1, c2, c3, if_true, if_false, h1, zbI_some, e62, h2]
theorem z_c30 {i : Nat} (hk : zRo ro) (hL : L ≤ 384) (hi : i + 6 ≤ L) (hR : zRel M) (hro : ∀ j, zNW ≤ j → M j = ro j) : zRnd L ro M i 1147 := by
  obtain ⟨r, M1, M2, h1, h2, h3, h4⟩ := k_free (L := L)  hR hro
  have e62 : M1 62 = M 62 := zden_ro h1 62 (Nat.le_refl _)
  refine ⟨M2, ?_, h3, h4⟩
  simp only [e231_1147, if_true, if_false, h1, zbI_some, e62, h2]
theorem z_c31 {i : Nat} (hk : zRo ro) (hL : L ≤ 384) (hi : i + 6 ≤ L) (hR : zRel M) (hro : ∀ j, zNW ≤ j → M j = ro j) : zRnd L ro M i 1160 := by
  have j1 : nI i + 1 = nI (i + 1) := nI_add i 1
  have z1 : zinb (nI (i + 1)) L = true := (zinb_nI (by omega)).mpr (by omega)
  have c1 : (nI (i + 1)).toNatClampNeg = i + 1 := nI_clamp (by omega)
  have j2 : nI i + 2 = nI (i + 2) := nI_add i 2
  have z2 : zinb (nI (i + 2)) L = true := (zinb_nI (by omega)).mpr (by omega)
  have c2 : (nI (i + 2)).toNatClampNeg = i + 2 := nI_clamp (by omega)
  obtain ⟨r, M1, M2, h1, h2, h3, h4⟩ := k_lifts (L := L) (M 62 (i + 1)) (M 62 (i + 2)) hR hro
  have e62 : M1 62 = M 62 := zden_ro h1 62 (Nat.le_refl _)
  refine ⟨M2, ?_, h3, h4⟩
  simp only [e231_1160, j1, j2, z1, z2, c1, c2, if_true, if_false, h1, zbI_some, e62, h2]
theorem z_c32 {i : Nat} (hk : zRo ro) (hL : L ≤ 384) (hi : i + 6 ≤ L) (hR : zRel M) (hro : ∀ j, zNW ≤ j → M j = ro j) : zRnd L ro M i 1193 := by
  obtain ⟨r, M1, M2, h1, h2, h3, h4⟩ := k_missed (L := L)  hR hro
  have e62 : M1 62 = M 62 := zden_ro h1 62 (Nat.le_refl _)
  refine ⟨M2, ?_, h3, h4⟩
  simp only [e231_1193, if_true, if_false, h1, zbI_some, e62, h2]
theorem z_c33 {i : Nat} (hk : zRo ro) (hL : L ≤ 384) (hi : i + 6 ≤ L) (hR : zRel M) (hro : ∀ j, zNW ≤ j → M j = ro j) : zRnd L ro M i 1206 := by
  have j1 : nI i + 1 = nI (i + 1) := nI_add i 1
  have z1 : zinb (nI (i + 1)) L = true := (zinb_nI (by omega)).mpr (by omega)
  have c1 : (nI (i + 1)).toNatClampNeg = i + 1 := nI_clamp (by omega)
  obtain ⟨r, M1, M2, h1, h2, h3, h4⟩ := k_tips (L := L) hk (M 62 (i + 1)) hR hro
  have e62 : M1 62 = M 62 := zden_ro h1 62 (Nat.le_refl _)
  refine ⟨M2, ?_, h3, h4⟩
  simp only [e231_1206, j1, z1, c1, if_true, if_false, h1, zbI_some, e62, h2]
theorem z_c34 {i : Nat} (hk : zRo ro) (hL : L ≤ 384) (hi : i + 6 ≤ L) (hR : zRel M) (hro : ∀ j, zNW ≤ j → M j = ro j) : zRnd L ro M i 1229 := by
  have j1 : nI i + 1 = nI (i + 1) := nI_add i 1
  have z1 : zinb (nI (i + 1)) L = true := (zinb_nI (by omega)).mpr (by omega)
  have c1 : (nI (i + 1)).toNatClampNeg = i + 1 := nI_clamp (by omega)
  obtain ⟨r, M1, M2, h1, h2, h3, h4⟩ := k_bags (L := L) (M 62 (i + 1)) hR hro
  have e62 : M1 62 = M 62 := zden_ro h1 62 (Nat.le_refl _)
  refine ⟨M2, ?_, h3, h4⟩
  simp only [e231_1229, j1, z1, c1, if_true, if_false, h1, zbI_some, e62, h2]
theorem z_c35 {i : Nat} (hk : zRo ro) (hL : L ≤ 384) (hi : i + 6 ≤ L) (hR : zRel M) (hro : ∀ j, zNW ≤ j → M j = ro j) : zRnd L ro M i 1252 := by
  have j1 : nI i + 1 = nI (i + 1) := nI_add i 1
  have z1 : zinb (nI (i + 1)) L = true := (zinb_nI (by omega)).mpr (by omega)
  have c1 : (nI (i + 1)).toNatClampNeg = i + 1 := nI_clamp (by omega)
  have j2 : nI i + 2 = nI (i + 2) := nI_add i 2
  have z2 : zinb (nI (i + 2)) L = true := (zinb_nI (by omega)).mpr (by omega)
  have c2 : (nI (i + 2)).toNatClampNeg = i + 2 := nI_clamp (by omega)
  by_cases hz : M 62 (i + 2) = 0
  · obtain ⟨r, M1, M2, h1, h2, h3, h4⟩ := k_lift (L := L) (M 62 (i + 1)) 0 hR hro
    have e62 : M1 62 = M 62 := zden_ro h1 62 (Nat.le_refl _)
    refine ⟨M2, ?_, h3, h4⟩
    simp only [e231_1252, e231_1271, e231_1293, j1, j2, z1, z2, c1, c2, hz, if_true, if_false, h1, zbI_some, e62, h2]
  · obtain ⟨r, M1, M2, h1, h2, h3, h4⟩ := k_lift (L := L) (M 62 (i + 1)) 1 hR hro
    have e62 : M1 62 = M 62 := zden_ro h1 62 (Nat.le_refl _)
    refine ⟨M2, ?_, h3, h4⟩
    simp only [e231_1252, e231_1271, e231_1293, j1, j2, z1, z2, c1, c2, hz, if_true, if_false, h1, zbI_some, e62, h2]
theorem z_c36 {i : Nat} (hk : zRo ro) (hL : L ≤ 384) (hi : i + 6 ≤ L) (hR : zRel M) (hro : ∀ j, zNW ≤ j → M j = ro j) : zRnd L ro M i 1301 := by
  have j1 : nI i + 1 = nI (i + 1) := nI_add i 1
  have z1 : zinb (nI (i + 1)) L = true := (zinb_nI (by omega)).mpr (by omega)
  have c1 : (nI (i + 1)).toNatClampNeg = i + 1 := nI_clamp (by omega)
  have j2 : nI i + 2 = nI (i + 2) := nI_add i 2
  have z2 : zinb (nI (i + 2)) L = true := (zinb_nI (by omega)).mpr (by omega)
  have c2 : (nI (i + 2)).toNatClampNeg = i + 2 := nI_clamp (by omega)
  have j3 : nI i + 3 = nI (i + 3) := nI_add i 3
  have z3 : zinb (nI (i + 3)) L = true := (zinb_nI (by omega)).mpr (by omega)
  have c3 : (nI (i + 3)).toNatClampNeg = i + 3 := nI_clamp (by omega)
  by_cases hz : M 62 (i + 3) = 0
  · obtain ⟨r, M1, M2, h1, h2, h3, h4⟩ := k_day (L := L) (M 62 (i + 1)) (M 62 (i + 2)) 0 hR hro
    have e62 : M1 62 = M 62 := zden_ro h1 62 (Nat.le_refl _)
    refine ⟨M2, ?_, h3, h4⟩
    simp only [e231_1301, e231_1325, e231_1352, j1, j2, j3, z1, z2, z3, c1, c2, c3, hz, if_true, if_false, h1, zbI_some, e62, h2]
  · obtain ⟨r, M1, M2, h1, h2, h3, h4⟩ := k_day (L := L) (M 62 (i + 1)) (M 62 (i + 2)) 1 hR hro
    have e62 : M1 62 = M 62 := zden_ro h1 62 (Nat.le_refl _)
    refine ⟨M2, ?_, h3, h4⟩
    simp only [e231_1301, e231_1325, e231_1352, j1, j2, j3, z1, z2, z3, c1, c2, c3, hz, if_true, if_false, h1, zbI_some, e62, h2]
theorem z_c37 {i : Nat} (hk : zRo ro) (hL : L ≤ 384) (hi : i + 6 ≤ L) (hR : zRel M) (hro : ∀ j, zNW ≤ j → M j = ro j) : zRnd L ro M i 1360 := by
  have j1 : nI i + 1 = nI (i + 1) := nI_add i 1
  have z1 : zinb (nI (i + 1)) L = true := (zinb_nI (by omega)).mpr (by omega)
  have c1 : (nI (i + 1)).toNatClampNeg = i + 1 := nI_clamp (by omega)
  have j2 : nI i + 2 = nI (i + 2) := nI_add i 2
  have z2 : zinb (nI (i + 2)) L = true := (zinb_nI (by omega)).mpr (by omega)
  have c2 : (nI (i + 2)).toNatClampNeg = i + 2 := nI_clamp (by omega)
  have j3 : nI i + 3 = nI (i + 3) := nI_add i 3
  have z3 : zinb (nI (i + 3)) L = true := (zinb_nI (by omega)).mpr (by omega)
  have c3 : (nI (i + 3)).toNatClampNeg = i + 3 := nI_clamp (by omega)
  have j4 : nI i + 4 = nI (i + 4) := nI_add i 4
  have z4 : zinb (nI (i + 4)) L = true := (zinb_nI (by omega)).mpr (by omega)
  have c4 : (nI (i + 4)).toNatClampNeg = i + 4 := nI_clamp (by omega)
  have j5 : nI i + 5 = nI (i + 5) := nI_add i 5
  have z5 : zinb (nI (i + 5)) L = true := (zinb_nI (by omega)).mpr (by omega)
  have c5 : (nI (i + 5)).toNatClampNeg = i + 5 := nI_clamp (by omega)
  by_cases hz : M 62 (i + 5) = 0
  · obtain ⟨r, M1, M2, h1, h2, h3, h4⟩ := k_year (L := L) (M 62 (i + 1)) (M 62 (i + 2)) (M 62 (i + 3)) (M 62 (i + 4)) 0 hR hro
    have e62 : M1 62 = M 62 := zden_ro h1 62 (Nat.le_refl _)
    refine ⟨M2, ?_, h3, h4⟩
    simp only [e231_1360, e231_1394, e231_1431, j1, j2, j3, j4, j5, z1, z2, z3, z4, z5, c1, c2, c3, c4, c5, hz, if_true, if_false, h1, zbI_some, e62, h2]
  · obtain ⟨r, M1, M2, h1, h2, h3, h4⟩ := k_year (L := L) (M 62 (i + 1)) (M 62 (i + 2)) (M 62 (i + 3)) (M 62 (i + 4)) 1 hR hro
    have e62 : M1 62 = M 62 := zden_ro h1 62 (Nat.le_refl _)
    refine ⟨M2, ?_, h3, h4⟩
    simp only [e231_1360, e231_1394, e231_1431, j1, j2, j3, j4, j5, z1, z2, z3, z4, z5, c1, c2, c3, c4, c5, hz, if_true, if_false, h1, zbI_some, e62, h2]
theorem z_c38 {i : Nat} (hk : zRo ro) (hL : L ≤ 384) (hi : i + 6 ≤ L) (hR : zRel M) (hro : ∀ j, zNW ≤ j → M j = ro j) : zRnd L ro M i 1439 := by
  obtain ⟨r, M1, M2, h1, h2, h3, h4⟩ := k_keep (L := L)  hR hro
  have e62 : M1 62 = M 62 := zden_ro h1 62 (Nat.le_refl _)
  refine ⟨M2, ?_, h3, h4⟩
  simp only [e231_1439, if_true, if_false, h1, zbI_some, e62, h2]
theorem z_c39 {i : Nat} (hk : zRo ro) (hL : L ≤ 384) (hi : i + 6 ≤ L) (hR : zRel M) (hro : ∀ j, zNW ≤ j → M j = ro j) : zRnd L ro M i 1452 := by
  obtain ⟨r, M1, M2, h1, h2, h3, h4⟩ := k_back (L := L)  hR hro
  have e62 : M1 62 = M 62 := zden_ro h1 62 (Nat.le_refl _)
  refine ⟨M2, ?_, h3, h4⟩
  simp only [e231_1452, if_true, if_false, h1, zbI_some, e62, h2]
theorem z_c40 {i : Nat} (hk : zRo ro) (hL : L ≤ 384) (hi : i + 6 ≤ L) (hR : zRel M) (hro : ∀ j, zNW ≤ j → M j = ro j) : zRnd L ro M i 1465 := by
  have j1 : nI i + 1 = nI (i + 1) := nI_add i 1
  have z1 : zinb (nI (i + 1)) L = true := (zinb_nI (by omega)).mpr (by omega)
  have c1 : (nI (i + 1)).toNatClampNeg = i + 1 := nI_clamp (by omega)
  obtain ⟨r, M1, M2, h1, h2, h3, h4⟩ := k_count (L := L) (M 62 (i + 1)) hR hro
  have e62 : M1 62 = M 62 := zden_ro h1 62 (Nat.le_refl _)
  refine ⟨M2, ?_, h3, h4⟩
  simp only [e231_1465, j1, z1, c1, if_true, if_false, h1, zbI_some, e62, h2]
theorem z_rnd {i : Nat} (hk : zRo ro) (hL : L ≤ 384) (hi : i + 6 ≤ L) (hR : zRel M) (hro : ∀ j, zNW ≤ j → M j = ro j) : zRnd L ro M i 18 := by
  have z0 : zinb (nI i) L = true := (zinb_nI (by omega)).mpr (by omega)
  have c0 : (nI i).toNatClampNeg = i := nI_clamp (by omega)
  have e0 := e231_18 L (nI i) M
  rw [show Int32.ofNat L - 6 = nI L - nI 6 from rfl, if_neg (fun q => by have := (wsub_lt (by omega) (by omega) (by omega)).mp q; omega), if_pos z0, c0] at e0
  have up : ∀ pc, zden (L + 1) 231 18 [some (.ref 62), some (.ref 0), some (.ref 48), some (.int (nI i))] [] M = zden (L + 1) 231 pc [some (.ref 62), some (.ref 0), some (.ref 48), some (.int (nI i))] [] M → zRnd L ro M i pc → zRnd L ro M i 18 := by
    rintro pc h ⟨M2, h1, h2⟩
    exact ⟨M2, h.trans h1, h2⟩
  by_cases h0 : M 62 i &&& 63 = 0
  · rw [if_pos h0] at e0
    exact up _ e0 (z_c0 hk hL hi hR hro)
  rw [if_neg h0] at e0
  by_cases h1 : M 62 i &&& 63 = 1
  · rw [if_pos h1] at e0
    exact up _ e0 (z_c1 hk hL hi hR hro)
  rw [if_neg h1] at e0
  by_cases h2 : M 62 i &&& 63 = 2
  · rw [if_pos h2] at e0
    exact up _ e0 (z_c2 hk hL hi hR hro)
  rw [if_neg h2] at e0
  by_cases h3 : M 62 i &&& 63 = 3
  · rw [if_pos h3] at e0
    exact up _ e0 (z_c3 hk hL hi hR hro)
  rw [if_neg h3] at e0
  by_cases h4 : M 62 i &&& 63 = 4
  · rw [if_pos h4] at e0
    exact up _ e0 (z_c4 hk hL hi hR hro)
  rw [if_neg h4] at e0
  by_cases h5 : M 62 i &&& 63 = 5
  · rw [if_pos h5] at e0
    exact up _ e0 (z_c5 hk hL hi hR hro)
  rw [if_neg h5] at e0
  by_cases h6 : M 62 i &&& 63 = 6
  · rw [if_pos h6] at e0
    exact up _ e0 (z_c6 hk hL hi hR hro)
  rw [if_neg h6] at e0
  by_cases h7 : M 62 i &&& 63 = 7
  · rw [if_pos h7] at e0
    exact up _ e0 (z_c7 hk hL hi hR hro)
  rw [if_neg h7] at e0
  by_cases h8 : M 62 i &&& 63 = 8
  · rw [if_pos h8] at e0
    exact up _ e0 (z_c8 hk hL hi hR hro)
  rw [if_neg h8] at e0
  by_cases h9 : M 62 i &&& 63 = 9
  · rw [if_pos h9] at e0
    exact up _ e0 (z_c9 hk hL hi hR hro)
  rw [if_neg h9] at e0
  by_cases h10 : M 62 i &&& 63 = 10
  · rw [if_pos h10] at e0
    exact up _ e0 (z_c10 hk hL hi hR hro)
  rw [if_neg h10] at e0
  by_cases h11 : M 62 i &&& 63 = 11
  · rw [if_pos h11] at e0
    exact up _ e0 (z_c11 hk hL hi hR hro)
  rw [if_neg h11] at e0
  by_cases h12 : M 62 i &&& 63 = 12
  · rw [if_pos h12] at e0
    exact up _ e0 (z_c12 hk hL hi hR hro)
  rw [if_neg h12] at e0
  by_cases h13 : M 62 i &&& 63 = 13
  · rw [if_pos h13] at e0
    exact up _ e0 (z_c13 hk hL hi hR hro)
  rw [if_neg h13] at e0
  by_cases h14 : M 62 i &&& 63 = 14
  · rw [if_pos h14] at e0
    exact up _ e0 (z_c14 hk hL hi hR hro)
  rw [if_neg h14] at e0
  by_cases h15 : M 62 i &&& 63 = 15
  · rw [if_pos h15] at e0
    exact up _ e0 (z_c15 hk hL hi hR hro)
  rw [if_neg h15] at e0
  by_cases h16 : M 62 i &&& 63 = 16
  · rw [if_pos h16] at e0
    exact up _ e0 (z_c16 hk hL hi hR hro)
  rw [if_neg h16] at e0
  by_cases h17 : M 62 i &&& 63 = 17
  · rw [if_pos h17] at e0
    exact up _ e0 (z_c17 hk hL hi hR hro)
  rw [if_neg h17] at e0
  by_cases h18 : M 62 i &&& 63 = 18
  · rw [if_pos h18] at e0
    exact up _ e0 (z_c18 hk hL hi hR hro)
  rw [if_neg h18] at e0
  by_cases h19 : M 62 i &&& 63 = 19
  · rw [if_pos h19] at e0
    exact up _ e0 (z_c19 hk hL hi hR hro)
  rw [if_neg h19] at e0
  by_cases h20 : M 62 i &&& 63 = 20
  · rw [if_pos h20] at e0
    exact up _ e0 (z_c20 hk hL hi hR hro)
  rw [if_neg h20] at e0
  by_cases h21 : M 62 i &&& 63 = 21
  · rw [if_pos h21] at e0
    exact up _ e0 (z_c21 hk hL hi hR hro)
  rw [if_neg h21] at e0
  by_cases h22 : M 62 i &&& 63 = 22
  · rw [if_pos h22] at e0
    exact up _ e0 (z_c22 hk hL hi hR hro)
  rw [if_neg h22] at e0
  by_cases h23 : M 62 i &&& 63 = 23
  · rw [if_pos h23] at e0
    exact up _ e0 (z_c23 hk hL hi hR hro)
  rw [if_neg h23] at e0
  by_cases h24 : M 62 i &&& 63 = 24
  · rw [if_pos h24] at e0
    exact up _ e0 (z_c24 hk hL hi hR hro)
  rw [if_neg h24] at e0
  by_cases h25 : M 62 i &&& 63 = 25
  · rw [if_pos h25] at e0
    exact up _ e0 (z_c25 hk hL hi hR hro)
  rw [if_neg h25] at e0
  by_cases h26 : M 62 i &&& 63 = 26
  · rw [if_pos h26] at e0
    exact up _ e0 (z_c26 hk hL hi hR hro)
  rw [if_neg h26] at e0
  by_cases h27 : M 62 i &&& 63 = 27
  · rw [if_pos h27] at e0
    exact up _ e0 (z_c27 hk hL hi hR hro)
  rw [if_neg h27] at e0
  by_cases h28 : M 62 i &&& 63 = 28
  · rw [if_pos h28] at e0
    exact up _ e0 (z_c28 hk hL hi hR hro)
  rw [if_neg h28] at e0
  by_cases h29 : M 62 i &&& 63 = 29
  · rw [if_pos h29] at e0
    exact up _ e0 (z_c29 hk hL hi hR hro)
  rw [if_neg h29] at e0
  by_cases h30 : M 62 i &&& 63 = 30
  · rw [if_pos h30] at e0
    exact up _ e0 (z_c30 hk hL hi hR hro)
  rw [if_neg h30] at e0
  by_cases h31 : M 62 i &&& 63 = 31
  · rw [if_pos h31] at e0
    exact up _ e0 (z_c31 hk hL hi hR hro)
  rw [if_neg h31] at e0
  by_cases h32 : M 62 i &&& 63 = 32
  · rw [if_pos h32] at e0
    exact up _ e0 (z_c32 hk hL hi hR hro)
  rw [if_neg h32] at e0
  by_cases h33 : M 62 i &&& 63 = 33
  · rw [if_pos h33] at e0
    exact up _ e0 (z_c33 hk hL hi hR hro)
  rw [if_neg h33] at e0
  by_cases h34 : M 62 i &&& 63 = 34
  · rw [if_pos h34] at e0
    exact up _ e0 (z_c34 hk hL hi hR hro)
  rw [if_neg h34] at e0
  by_cases h35 : M 62 i &&& 63 = 35
  · rw [if_pos h35] at e0
    exact up _ e0 (z_c35 hk hL hi hR hro)
  rw [if_neg h35] at e0
  by_cases h36 : M 62 i &&& 63 = 36
  · rw [if_pos h36] at e0
    exact up _ e0 (z_c36 hk hL hi hR hro)
  rw [if_neg h36] at e0
  by_cases h37 : M 62 i &&& 63 = 37
  · rw [if_pos h37] at e0
    exact up _ e0 (z_c37 hk hL hi hR hro)
  rw [if_neg h37] at e0
  by_cases h38 : M 62 i &&& 63 = 38
  · rw [if_pos h38] at e0
    exact up _ e0 (z_c38 hk hL hi hR hro)
  rw [if_neg h38] at e0
  by_cases h39 : M 62 i &&& 63 = 39
  · rw [if_pos h39] at e0
    exact up _ e0 (z_c39 hk hL hi hR hro)
  rw [if_neg h39] at e0
  by_cases h40 : M 62 i &&& 63 = 40
  · rw [if_pos h40] at e0
    exact up _ e0 (z_c40 hk hL hi hR hro)
  rw [if_neg h40] at e0
  exact ⟨M, e0, hR, hro⟩
theorem z_law (hk : zRo ro) (hL : L ≤ 384) : ∀ f i, L ≤ i + f → i ≤ 1000 → ∀ M : zM, zRel M → (∀ j, zNW ≤ j → M j = ro j) → ∃ M', zden (L + 1) 231 18 [some (.ref 62), some (.ref 0), some (.ref 48), some (.int (nI i))] [] M = some (some (.int 1), M') := by
  intro f
  induction f with
  | zero =>
    intro i hi h1000 M hR hro
    refine ⟨M, ?_⟩
    rw [e231_18, show Int32.ofNat L - 6 = nI L - nI 6 from rfl, if_pos ((wsub_lt (by omega) (by omega) (by omega)).mpr (by omega))]
  | succ f ih =>
    intro i hi h1000 M hR hro
    by_cases h : L < i + 6
    · refine ⟨M, ?_⟩
      rw [e231_18, show Int32.ofNat L - 6 = nI L - nI 6 from rfl, if_pos ((wsub_lt (by omega) (by omega) (by omega)).mpr h)]
    · obtain ⟨M2, g1, g2, g3⟩ := z_rnd hk hL (show i + 6 ≤ L by omega) hR hro
      obtain ⟨M3, r1⟩ := ih (i + 6) (by omega) (by omega) M2 g2 g3
      exact ⟨M3, by rw [g1, e231_1488, show nI i + 6 = nI (i + 6) from nI_add i 6, r1]⟩
end KW
