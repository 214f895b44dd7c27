/-- the numbers of a town, as the second object's row has them -/
def zTb (t : Nat → Nat) : Prop :=
  (1 ≤ t 0 ∧ t 0 ≤ 12 ∧ t 1 ≤ 4 ∧ t 2 ≤ 7 ∧ t 3 ≤ 10) ∧
  (3 ≤ t 4 ∧ t 4 ≤ 40 ∧ 1 ≤ t 5 ∧ t 5 ≤ 60 ∧ 1 ≤ t 6 ∧ t 6 ≤ 99 ∧ t 7 ≤ 40 ∧ t 8 ≤ 40 ∧ t 9 ≤ 99 ∧ t 10 ≤ 99 ∧ 1 ≤ t 11 ∧ t 11 ≤ 99 ∧ 1 ≤ t 12 ∧ t 12 ≤ 99 ∧ t 13 ≤ 99 ∧ t 14 ≤ 99 ∧ 1 ≤ t 15 ∧ t 15 ≤ 99) ∧
  (∀ s, s < t 0 → 1 ≤ t (16 + s) ∧ t (16 + s) ≤ 30 ∧ 10 ≤ t (28 + s) ∧ t (28 + s) ≤ 60) ∧
  (∀ h, h < t 1 → 1 ≤ t (40 + h) ∧ t (40 + h) ≤ 99 ∧ t (44 + h) ≤ 10) ∧
  (∀ h, h < 24 → t (48 + h) ≤ 9) ∧
  (∀ q, q < t 2 → t (72 + q) ≤ 60 ∧ t (79 + q) ≤ 1) ∧
  (∀ e, e < t 3 → t (86 + e) < t 2 ∧ t (96 + e) < t 2 ∧ t (86 + e) ≠ t (96 + e) ∧ 1 ≤ t (106 + e) ∧ t (106 + e) ≤ 60)
/-- lifts as bits -/
def zbits (f : Nat → Nat) : Nat → Nat
  | 0 => 0
  | n + 1 => zbits f n + f n * 2 ^ n
/-- a town of the first object, its cells from o on -/
def zTc (M : zM) (o : Nat) (t : Nat → Nat) : Prop :=
  (M o 2 = nI (t 0) ∧ M o 6 = nI (t 1) ∧ M o 9 = nI (t 2) ∧ M o 13 = nI (t 3) ∧ M o 14 = nI (zbits (fun q => t (79 + q)) (t 2))) ∧
  (∀ k, k < 12 → M (o + 3) k = nI (t (4 + k))) ∧
  (∀ s, s < t 0 → M (o + 1) s = nI (t (16 + s)) ∧ M (o + 2) s = nI (t (28 + s))) ∧
  (∀ h, h < t 1 → M (o + 4) h = nI (t (40 + h)) ∧ M (o + 5) h = nI (t (44 + h))) ∧
  (∀ h, h < 24 → M (o + 6) h = nI (t (48 + h))) ∧
  (∀ q, q < t 2 → M (o + 7) q = nI (t (72 + q))) ∧
  (∀ e, e < t 3 → M (o + 8) e = nI (t (86 + e)) ∧ M (o + 9) e = nI (t (96 + e)) ∧ M (o + 10) e = nI (t (106 + e)))
/-- a town of the second object, its row a -/
def zTm (M : zM) (a : Nat) (t : Nat → Nat) : Prop := ∀ j, j < 116 → M a j = nI (t j)
/-- a stance that can be, of a town -/
def zSt (t n : Nat → Nat) : Prop := n 0 ≤ t 0 ∧ n 1 ≤ 1 ∧ n 2 ≤ t 11 ∧ n 3 < 1000000 ∧ n 4 ≤ 60 * n 0 ∧ n 5 ≤ 1
def zStAt (t : Nat → Nat) (f : Nat → Int32) (b : Nat) : Prop := ∃ n : Nat → Nat, (∀ j, j < 6 → f (b + j) = nI (n j)) ∧ n 0 ≤ t 0 ∧ n 1 ≤ 1 ∧ n 2 ≤ t 11 ∧ n 4 ≤ 60 * n 0 ∧ n 5 ≤ 1
/-- what nobody writes -/
def zRo (M : zM) : Prop :=
  (∀ j, j < 12 → M 63 j = nI ([20, 20, 30, 0, 10, 30, 20, 40, 20, 20, 60, 9].getD j 0)) ∧ (∀ j, j < 12 → M 64 j = nI ([2, 3, 1, 3, 2, 2, 2, 2, 1, 1, 3, 1].getD j 0)) ∧
  (∀ j, j < 36 → M 65 j = nI ([1, 10, 0, 3, 1, 1, 0, 0, 0, 0, 0, 0, 1, 1, 0, 1, 0, 0, 0, 0, 0, 0, 0, 0, 1, 0, 0, 0, 0, 0, 0, 0, 1, 0, 0, 0].getD j 0)) ∧
  (∀ j, j < 36 → M 66 j = nI ([30, 60, 0, 40, 60, 99, 40, 0, 0, 40, 99, 99, 99, 99, 0, 99, 10, 0, 23, 9, 0, 99, 99, 0, 99, 0, 0, 60, 0, 0, 6, 6, 60, 6, 0, 0].getD j 0)) ∧
  (M 67 0 = 1 ∧ M 67 1 = 2 ∧ M 67 2 = 4) ∧ (M 68 0 = 1 ∧ M 68 1 = 2 ∧ M 68 2 = 5) ∧ M 69 1 = 0 ∧
  (∀ j, j < 12 → M 70 j = nI ([115, 112, 98, 107, 97, 104, 110, 113, 109, 116, 101, 105].getD j 0))
def zTx (M : zM) : Prop := ∃ n, n ≤ 200 ∧ M 23 1 = nI n ∧ M 48 3 = nI n ∧ ∀ j, j < n → ∃ c, 32 ≤ c ∧ c ≤ 126 ∧ M 24 j = nI c ∧ M 51 j = nI c
def zNw (t : Nat → Nat) (M : zM) : Prop := zStAt t (M 52) 0 ∧ ∀ j, j < 6 → M 40 j = M 52 j
def zFx (M : zM) : Prop := M 43 0 = 8 ∧ M 43 1 = 6 ∧ M 45 0 = 2 ∧ M 45 1 = 8
def zPs (t : Nat → Nat) (M : zM) : Prop := ∃ n, n ≤ 8 ∧ M 43 3 = nI n ∧ M 48 6 = nI n ∧ (∀ i, i < n → zStAt t (M 53) (6 * i)) ∧ ∀ j, j < 6 * n → M 44 j = M 53 j
def zTd (M : zM) : Prop := ∃ n, n ≤ 20 ∧ M 0 15 = nI n ∧ M 48 8 = nI n ∧ ∀ j, j < n → ∃ c, c ≤ 3 ∧ M 47 j = nI c ∧ M 54 j = nI c
def zKp (t : Nat → Nat) (M : zM) : Prop := ∃ n, n ≤ 2 ∧ M 45 3 = nI n ∧ M 48 10 = nI n ∧ (∀ i, i < n → zStAt t (M 55) (8 * i) ∧ ∃ b f, b ≤ 40 ∧ M 55 (8 * i + 6) = nI b ∧ (∀ q, q < t 2 → f q ≤ 1) ∧ M 55 (8 * i + 7) = nI (zbits f (t 2))) ∧ ∀ j, j < 8 * n → M 46 j = M 55 j
/-- both objects tell of the same -/
def zRel (M : zM) : Prop := ∃ t : Nat → Nat, zTb t ∧ zTc M 1 t ∧ zTm M 49 t ∧ zTx M ∧ zNw t M ∧ zFx M ∧ zPs t M ∧ zTd M ∧ zKp t M
theorem zTc_c {M M' : zM} {o : Nat} {t : Nat → Nat} (h : zTc M o t) (h1 : M' o = M o) (h2 : ∀ k, 1 ≤ k → k ≤ 10 → M' (o + k) = M (o + k)) : zTc M' o t := by
  unfold zTc at h ⊢
  rw [h1, h2 1 (by omega) (by omega), h2 2 (by omega) (by omega), h2 3 (by omega) (by omega), h2 4 (by omega) (by omega), h2 5 (by omega) (by omega), h2 6 (by omega) (by omega), h2 7 (by omega) (by omega), h2 8 (by omega) (by omega), h2 9 (by omega) (by omega), h2 10 (by omega) (by omega)]
  exact h
theorem zTm_c {M M' : zM} {a : Nat} {t : Nat → Nat} (h : zTm M a t) (h1 : M' a = M a) : zTm M' a t := by
  unfold zTm at h ⊢
  rw [h1]
  exact h
theorem zTx_c {M M' : zM} (h : zTx M) (h1 : M' 23 1 = M 23 1) (h2 : M' 48 3 = M 48 3) (h3 : M' 24 = M 24) (h4 : M' 51 = M 51) : zTx M' := by
  unfold zTx at h ⊢
  rw [h1, h2, h3, h4]
  exact h
theorem zNw_c {M M' : zM} {t : Nat → Nat} (h : zNw t M) (h1 : M' 52 = M 52) (h2 : M' 40 = M 40) : zNw t M' := by
  unfold zNw at h ⊢
  rw [h1, h2]
  exact h
theorem zFx_c {M M' : zM} (h : zFx M) (h1 : M' 43 0 = M 43 0) (h2 : M' 43 1 = M 43 1) (h3 : M' 45 0 = M 45 0) (h4 : M' 45 1 = M 45 1) : zFx M' := by
  unfold zFx at h ⊢
  rw [h1, h2, h3, h4]
  exact h
theorem zPs_c {M M' : zM} {t : Nat → Nat} (h : zPs t M) (h1 : M' 43 3 = M 43 3) (h2 : M' 48 6 = M 48 6) (h3 : M' 53 = M 53) (h4 : M' 44 = M 44) : zPs t M' := by
  unfold zPs at h ⊢
  rw [h1, h2, h3, h4]
  exact h
theorem zTd_c {M M' : zM} (h : zTd M) (h1 : M' 0 15 = M 0 15) (h2 : M' 48 8 = M 48 8) (h3 : M' 47 = M 47) (h4 : M' 54 = M 54) : zTd M' := by
  unfold zTd at h ⊢
  rw [h1, h2, h3, h4]
  exact h
theorem zKp_c {M M' : zM} {t : Nat → Nat} (h : zKp t M) (h1 : M' 45 3 = M 45 3) (h2 : M' 48 10 = M 48 10) (h3 : M' 55 = M 55) (h4 : M' 46 = M 46) : zKp t M' := by
  unfold zKp at h ⊢
  rw [h1, h2, h3, h4]
  exact h
theorem zput_row (M : zM) (i j : Nat) (x : Int32) (k : Nat) : zput M i j x k = if k = i then upd (M i) j x else M k := by
  by_cases h : k = i
  · subst h; rw [if_pos rfl, zput_self]
  · rw [if_neg h, zput_ne h]
theorem zTd_0 {M : zM} (h1 : M 0 15 = 0) (h2 : M 48 8 = 0) : zTd M := ⟨0, by omega, h1, h2, fun j hj => by omega⟩
theorem zPs_0 {M : zM} {t : Nat → Nat} (h1 : M 43 3 = 0) (h2 : M 48 6 = 0) : zPs t M := ⟨0, by omega, h1, h2, fun j hj => by omega, fun j hj => by omega⟩
theorem zKp_0 {M : zM} {t : Nat → Nat} (h1 : M 45 3 = 0) (h2 : M 48 10 = 0) : zKp t M := ⟨0, by omega, h1, h2, fun j hj => by omega, fun j hj => by omega⟩
theorem zTx_0 {M : zM} (h1 : M 23 1 = 0) (h2 : M 48 3 = 0) : zTx M := ⟨0, by omega, h1, h2, fun j hj => by omega⟩
/-- a call of the one, then of the other: the same answer, and both go on alike -/
def zSame (L : Nat) (ro : zM) (kc km : Nat) (ac am : zLo) (M : zM) : Prop :=
  ∃ (r : Int32) (M1 M2 : zM), zden (L + 1) kc 0 ac [] M = some (some (.int r), M1) ∧ zden (L + 1) km 0 am [] M1 = some (some (.int r), M2) ∧ zRel M2 ∧ ∀ i, zNW ≤ i → M2 i = ro i
theorem s0 (L : Nat) (i : Int32) (M : zM) : zden (L + 1) 0 0 [some (.ref 1), some (.int i)] [] M = some (some (.int (zrd 12 (M 4) i)), M) := by
  rw [e0_1_0]
  by_cases h0 : i < 0
  · rw [if_pos h0, e0_1_22, e0_1_23, zrd, if_neg (zinb_lo h0)]
  · rw [if_neg h0]
    by_cases h1 : i < 12
    · have hb := zinb_of (n := 12) (by omega) h0 h1
      rw [if_pos h1, if_pos hb, e0_1_23, zrd, if_pos hb]
    · rw [if_neg h1, e0_1_22, e0_1_23, zrd, if_neg (zinb_hi (n := 12) (by omega) h1)]
theorem s0k (L : Nat) (k : Nat) (hk : k < 12) {i : Int32} (hi : i = nI k) (M : zM) : zden (L + 1) 0 0 [some (.ref 1), some (.int i)] [] M = some (some (.int (M 4 k)), M) := by
  rw [s0, hi, zrd_nI (by omega), if_pos hk]
theorem s167 (L : Nat) (x : Int32) (M : zM) : zden (L + 1) 167 0 [some (.int x)] [] M = some (some (.int (zb (zrng x 0 23))), M) := by
  rw [e167_0, s143i L x 0 23 (by decide) (by decide), zbI_some]
  rw [if_pos (zfit_zb _)]
  rfl
theorem s161 (L : Nat) (x : Int32) (M : zM) : zden (L + 1) 161 0 [some (.int x)] [] M = some (some (.int (zb (zrng x 0 1))), M) := by
  rw [e161_0, s143i L x 0 1 (by decide) (by decide), zbI_some]
  rw [if_pos (zfit_zb _)]
  rfl
theorem k_passers {L : Nat} {ro M : zM} (h : Int32) (hR : zRel M) (hro : ∀ i, zNW ≤ i → M i = ro i) : zSame L ro 103 168 [some (.ref 0), some (.int h)] [some (.ref 48), some (.int h)] M := by
  obtain ⟨t, hb, hc, hm, -⟩ := id hR
  by_cases hr : zrng h 0 23 = true
  · obtain ⟨j, hj, rfl⟩ := zrng_nI (b := 23) (by omega) hr
    refine ⟨nI (t (48 + j)), M, M, ?_, ?_, hR, hro⟩
    · rw [e103_0, s46, zbI_some, show (!decide (nI j < 0) && !decide (23 < nI j)) = true from hr, if_neg (by decide), s4_7, zbI_some, e103_25, zrd_nI (by omega), if_pos (by omega), hc.2.2.2.2.1 j (by omega)]
    · rw [e168_0, s167, zbI_some, hr, if_neg (by decide), show (48 : Int32) + nI j = nI (48 + j) from nI_add 48 j, if_pos ((zinb_nI (by omega)).mpr (by omega)), e168_20, nI_clamp (by omega), hm _ (by omega)]
  · have hf : zrng h 0 23 = false := by simpa using hr
    refine ⟨-1, M, M, ?_, ?_, hR, hro⟩
    · rw [e103_0, s46, zbI_some, show (!decide (h < 0) && !decide (23 < h)) = false from hf, if_pos (by decide), e103_25]
    · rw [e168_0, s167, zbI_some, hf, if_pos (by decide), e168_20]
