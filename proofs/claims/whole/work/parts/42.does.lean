theorem zcp2_self (M : zM) {a i n : Nat} (h : 0 < i) : zput (zcp2 M a i a 0 n) a n (zcp2 M a i a 0 n a (i + n)) = zcp2 M a i a 0 (n + 1) := by
  funext x y
  unfold zput
  by_cases h1 : x = a ∧ y = n
  · obtain ⟨rfl, rfl⟩ := h1
    rw [if_pos ⟨rfl, rfl⟩, zcp2_out _ (by omega), zcp2_in _ (by omega) (by omega), Nat.sub_zero]
  · rw [if_neg h1]
    unfold zcp2
    by_cases h2 : x = a ∧ 0 ≤ y ∧ y < 0 + n
    · rw [if_pos h2, if_pos ⟨h2.1, h2.2.1, by omega⟩]
    · rw [if_neg h2, if_neg]
      rintro ⟨q1, q2, q3⟩
      by_cases q4 : y = n
      · exact h1 ⟨q1, q4⟩
      · exact h2 ⟨q1, q2, by omega⟩
def wpn (n : Nat) : Nat := if n = 8 then 7 else n
def wpd (n : Nat) : Nat := if n = 8 then 6 else 0
section KD
variable {L : Nat} {ro M : zM} {t : Nat → Nat}
theorem s15a_l (h1 : M 43 1 = 6) (h3 : M 43 3 = 8) : ∀ d k, d + k = 42 → zden (L + 1) 15 5 [some (.ref 43), some (.int (nI (6 + k)))] [] (zcp2 M 44 6 44 0 k) = some (none, zput (zcp2 M 44 6 44 0 42) 43 3 7) := by
  have r1 : ∀ k, zcp2 M 44 6 44 0 k 43 1 = 6 := fun k => by rw [zcp2_row M (by decide)]; exact h1
  have r3 : ∀ k, zcp2 M 44 6 44 0 k 43 3 = 8 := fun k => by rw [zcp2_row M (by decide)]; exact h3
  intro d
  induction d with
  | zero =>
    intro k hk
    have : k = 42 := by omega
    subst this
    rw [e15_43_5, r1, r3, if_neg (by decide)]; rfl
  | succ d ih =>
    intro k hk
    rw [e15_43_5, r1, r3, if_pos (show nI (6 + k) < 8 * 6 from nI_lt (b := 48) (by omega) (by omega)), s4_44, zbI_some, zrd_nI (by omega), if_pos (by omega), show (6 : Int32) = nI 6 from rfl, nI_sub (by omega), s5_44, zbV_some, zwr_nI (by omega) (by omega), nI_1, show 6 + k - 6 = k by omega, zcp2_self M (by omega)]
    exact ih (k + 1) (by omega)
theorem s15a (h1 : M 43 1 = 6) (h3 : M 43 3 = 8) : zden (L + 1) 15 0 [some (.ref 43), none] [] M = some (none, zput (zcp2 M 44 6 44 0 42) 43 3 7) := by
  rw [e15_43_0, h1]
  have := s15a_l (L := L) h1 h3 42 0 (by omega)
  rw [zcp2_0] at this
  exact this
theorem s16a_l {m : Nat} (hm : m ≤ 7) (h1 : M 43 1 = 6) (h3 : M 43 3 = nI m) : ∀ d k, d + k = 6 → zden (L + 1) 16 17 [some (.ref 43), some (.ref 40), some (.int (nI k))] [] (zcp2 M 40 0 44 (6 * m) k) = some (none, zput (zcp2 M 40 0 44 (6 * m) 6) 43 3 (nI (m + 1))) := by
  have r1 : ∀ k, zcp2 M 40 0 44 (6 * m) k 43 1 = 6 := fun k => by rw [zcp2_row M (by decide)]; exact h1
  have r3 : ∀ k, zcp2 M 40 0 44 (6 * m) k 43 3 = nI m := fun k => by rw [zcp2_row M (by decide)]; exact h3
  intro d
  induction d with
  | zero =>
    intro k hk
    have : k = 6 := by omega
    subst this
    rw [e16_43_40_17, r1, r3, if_neg (by decide), nI_1]
  | succ d ih =>
    intro k hk
    rw [e16_43_40_17, r1, r3, if_pos (zlt_6 (by omega)), s4_40, zbI_some, zrd_nI (by omega), if_pos (by omega), show (6 : Int32) = nI 6 from rfl, nI_mul, nI_add, s5_44, zbV_some, zwr_nI (by omega) (by omega), zcp2_a M (by decide), nI_1, show m * 6 + k = 6 * m + k by omega]
    have hs := zcp2_s M (a := 40) (i := 0) (b := 44) (j := 6 * m) (n := k) (by decide)
    rw [Nat.zero_add] at hs
    rw [hs]
    exact ih (k + 1) (by omega)
theorem s16a15 {m : Nat} (hm : m ≤ 7) (h1 : M 43 1 = 6) (h3 : M 43 3 = nI m) (o : Option Value) : zden (L + 1) 16 15 [some (.ref 43), some (.ref 40), o] [] M = some (none, zput (zcp2 M 40 0 44 (6 * m) 6) 43 3 (nI (m + 1))) := by
  rw [e16_43_40_15]
  have := s16a_l (L := L) hm h1 h3 6 0 (by omega)
  rw [zcp2_0] at this
  exact this
theorem s16a {n : Nat} (hn : n ≤ 8) (h0 : M 43 0 = 8) (h1 : M 43 1 = 6) (h3 : M 43 3 = nI n) : ∃ M', zden (L + 1) 16 0 [some (.ref 43), some (.ref 40), none] [] M = some (none, M') ∧ (∀ i, i ≠ 43 → i ≠ 44 → M' i = M i) ∧ (M' 43 0 = 8 ∧ M' 43 1 = 6) ∧ M' 43 3 = nI (wpn n + 1) ∧ (∀ j, j < 6 * wpn n → M' 44 j = M 44 (j + wpd n)) ∧ ∀ j, j < 6 → M' 44 (6 * wpn n + j) = M 40 j := by
  by_cases h : n = 8
  · subst h
    rw [e16_43_40_0, h0, h3, if_neg (by decide), s15a h1 h3, zbV_some, s16a15 (m := 7) (by omega) (by simp [zput, zcp2, h1]) (by simp [zput]; rfl)]
    refine ⟨_, rfl, fun i hi1 hi2 => ?_, ⟨?_, ?_⟩, ?_, fun j hj => ?_, fun j hj => ?_⟩
    · rw [zput_ne hi1, zcp2_row _ hi2, zput_ne hi1, zcp2_row _ hi2]
    · simp [zput, zcp2, h0]
    · simp [zput, zcp2, h1]
    · rw [zput_at]; rfl
    · have : wpn 8 = 7 := rfl
      rw [zput_o _ _ (Or.inl (by decide)), zcp2_out _ (by omega), zput_o _ _ (Or.inl (by decide)), zcp2_in _ (by omega) (by omega), Nat.sub_zero, Nat.add_comm]
      rfl
    · have : wpn 8 = 7 := rfl
      rw [zput_o _ _ (Or.inl (by decide)), zcp2_in _ (by omega) (by omega), zput_o _ _ (Or.inl (by decide)), zcp2_row _ (by decide)]
      congr 1
      omega
  · rw [e16_43_40_0, h0, h3, if_pos (show nI n < 8 from nI_lt (b := 8) (by omega) (by omega)), s16a15 (m := n) (by omega) h1 h3]
    have e1 : wpn n = n := if_neg h
    have e2 : wpd n = 0 := if_neg h
    rw [e1, e2]
    refine ⟨_, rfl, fun i hi1 hi2 => ?_, ⟨?_, ?_⟩, ?_, fun j hj => ?_, fun j hj => ?_⟩
    · rw [zput_ne hi1, zcp2_row _ hi2]
    · simp [zput, zcp2, h0]
    · simp [zput, zcp2, h1]
    · rw [zput_at]
    · rw [zput_o _ _ (Or.inl (by decide)), zcp2_out _ (by omega)]; rfl
    · rw [zput_o _ _ (Or.inl (by decide)), zcp2_in _ (by omega) (by omega)]
      congr 1
      omega
theorem s180_l (h6 : M 48 6 = 8) : ∀ d k, d + k = 42 → zden (L + 1) 180 11 [some (.ref 48), some (.int (nI k))] [] (zcp2 M 53 6 53 0 k) = zden (L + 1) 180 48 [some (.ref 48), some (.int (nI 42))] [] (zput (zcp2 M 53 6 53 0 42) 48 6 7) := by
  intro d
  induction d with
  | zero =>
    intro k hk
    have : k = 42 := by omega
    subst this
    rw [e180_11, if_neg (by decide), show zcp2 M 53 6 53 0 42 48 6 = 8 by rw [zcp2_row M (by decide)]; exact h6]; rfl
  | succ d ih =>
    intro k hk
    rw [e180_11, if_pos (show nI k < 42 from nI_lt (b := 42) (by omega) (by omega)), show (6 : Int32) = nI 6 from rfl, nI_add, if_pos ((zinb_nI (by omega)).mpr (by omega)), if_pos ((zinb_nI (by omega)).mpr (by omega)), nI_clamp (by omega), nI_clamp (by omega), nI_1, Nat.add_comm k 6, zcp2_self M (by omega)]
    exact ih (k + 1) (by omega)
theorem s180 {n : Nat} (hn : n ≤ 8) (h6 : M 48 6 = nI n) : ∃ M', zden (L + 1) 180 0 [some (.ref 48), none] [] M = some (none, M') ∧ (∀ i, i ≠ 48 → i ≠ 52 → i ≠ 53 → M' i = M i) ∧ (∀ j, j ≠ 6 → M' 48 j = M 48 j) ∧ M' 48 6 = nI (wpn n + 1) ∧ (∀ j, j < 6 * wpn n → M' 53 j = M 53 (j + wpd n)) ∧ (∀ j, j < 6 → M' 53 (6 * wpn n + j) = M 52 j) ∧ ∀ j, j < 6 → M' 52 j = M 57 j := by
  have hg : ∀ (P : zM) (o : Option Value) (m : Nat), m ≤ 7 → P 48 6 = nI m → zden (L + 1) 180 48 [some (.ref 48), o] [] P = some (none, zcp2 (zput (zcp2 P 52 0 53 (6 * m) 6) 48 6 (nI (m + 1))) 57 0 52 0 6) := by
    intro P o m hm hP
    rw [e180_48, hP, show (6 : Int32) = nI 6 from rfl, nI_mul, show (0 : Int32) = nI 0 from rfl, s177_48_52_53 L (i := 0) (j := 6 * m) (by omega) (by omega), zbV_some, zcp2_row P (show (48 : Nat) ≠ 53 by decide), hP, nI_1, s177_48_57_52 L (i := 0) (j := 0) (by omega) (by omega), zbV_some]
  by_cases h : n = 8
  · subst h
    rw [e180_0, h6, if_pos (by decide)]
    have hl := s180_l (L := L) (M := M) h6 42 0 (by omega)
    rw [zcp2_0] at hl
    rw [show (0 : Int32) = nI 0 from rfl, hl, hg _ _ 7 (by omega) (by rw [zput_at]; rfl)]
    have e1 : wpn 8 = 7 := rfl
    have e2 : wpd 8 = 6 := rfl
    rw [e1, e2]
    refine ⟨_, rfl, fun i h1 h2 h3 => ?_, fun j hj => ?_, ?_, fun j hj => ?_, fun j hj => ?_, fun j hj => ?_⟩
    · rw [zcp2_row _ h2, zput_ne h1, zcp2_row _ h3, zput_ne h1, zcp2_row _ h3]
    · rw [zcp2_row _ (by decide), zput_o _ _ (Or.inr hj), zcp2_row _ (by decide), zput_o _ _ (Or.inr hj), zcp2_row _ (by decide)]
    · rw [zcp2_row _ (by decide), zput_at]
    · rw [zcp2_row _ (by decide), zput_o _ _ (Or.inl (by decide)), zcp2_out _ (by omega), zput_o _ _ (Or.inl (by decide)), zcp2_in _ (by omega) (by omega), Nat.sub_zero, Nat.add_comm]
    · rw [zcp2_row _ (by decide), zput_o _ _ (Or.inl (by decide)), zcp2_in _ (by omega) (by omega), zput_o _ _ (Or.inl (by decide)), zcp2_row _ (by decide)]
      congr 1
      omega
    · rw [zcp2_in _ (by omega) (by omega), zput_o _ _ (Or.inl (by decide)), zcp2_row _ (by decide), zput_o _ _ (Or.inl (by decide)), zcp2_row _ (by decide)]
      congr 1
      omega
  · have e1 : wpn n = n := if_neg h
    have e2 : wpd n = 0 := if_neg h
    rw [e180_0, h6, if_neg (show ¬ nI n = 8 from fun q => h ((nI_eq (b := 8) (by omega) (by omega)).mp q)), hg _ _ n (by omega) h6, e1, e2]
    refine ⟨_, rfl, fun i h1 h2 h3 => ?_, fun j hj => ?_, ?_, fun j hj => ?_, fun j hj => ?_, fun j hj => ?_⟩
    · rw [zcp2_row _ h2, zput_ne h1, zcp2_row _ h3]
    · rw [zcp2_row _ (by decide), zput_o _ _ (Or.inr hj), zcp2_row _ (by decide)]
    · rw [zcp2_row _ (by decide), zput_at]
    · rw [zcp2_row _ (by decide), zput_o _ _ (Or.inl (by decide)), zcp2_out _ (by omega)]; rfl
    · rw [zcp2_row _ (by decide), zput_o _ _ (Or.inl (by decide)), zcp2_in _ (by omega) (by omega)]
      congr 1
      omega
    · rw [zcp2_in _ (by omega) (by omega), zput_o _ _ (Or.inl (by decide)), zcp2_row _ (by decide)]
      congr 1
      omega
end KD
