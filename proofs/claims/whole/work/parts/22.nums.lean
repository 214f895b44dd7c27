theorem nI_lit (n : Nat) : (Int32.ofNat n) = nI n := rfl
theorem nI_mul (a b : Nat) : nI a * nI b = nI (a * b) := (Int32.ofNat_mul a b).symm
theorem nI_sub {a b : Nat} (h : b ≤ a) : nI a - nI b = nI (a - b) := by
  have : nI a = nI (a - b) + nI b := by rw [nI_add, Nat.sub_add_cancel h]
  rw [this, Int32.add_sub_cancel]
theorem zinb_nI {a n : Nat} (ha : a < 2 ^ 31) : (zinb (nI a) n = true) ↔ a < n := by
  rw [zinb_iff, nI_clamp ha]
  exact ⟨fun h => h.2, fun h => ⟨nI_pos' ha, h⟩⟩
theorem zrd_nI {a n : Nat} {f : Nat → Int32} (ha : a < 2 ^ 31) : zrd n f (nI a) = if a < n then f a else 0 := by
  unfold zrd
  by_cases h : a < n
  · rw [if_pos ((zinb_nI ha).mpr h), if_pos h, nI_clamp ha]
  · rw [if_neg (fun q => h ((zinb_nI ha).mp q)), if_neg h]
theorem zwr_nI {M : zM} {i a n : Nat} {x : Int32} (ha : a < n) (hn : n < 2 ^ 31) : zwr M i n (nI a) x = zput M i a x := by
  unfold zwr
  rw [if_pos ((zinb_nI (by omega)).mpr ha), nI_clamp (by omega)]
theorem nI_div {a b : Nat} (ha : a < 2 ^ 31) (hb0 : 0 < b) (hb : b < 2 ^ 31) : nI a / nI b = nI (a / b) := by
  rw [zi_eq, Int32.toInt_div, nI_toInt ha, nI_toInt hb, nI_toInt (Nat.lt_of_le_of_lt (Nat.div_le_self a b) ha)]
  have h1 : (a : Int).tdiv b = ((a / b : Nat) : Int) := by
    rw [Int.tdiv_eq_ediv_of_nonneg (by omega)]
    simp
  rw [h1]
  have h2 : a / b < 2 ^ 31 := Nat.lt_of_le_of_lt (Nat.div_le_self a b) ha
  generalize a / b = q at h2 ⊢
  rw [Int.bmod_eq_of_le (by omega) (by omega)]
theorem nI_cut {w q : Nat} (hq : 0 < q) (h : w + q < 2 ^ 31) : zcut (nI w) (nI q) = nI ((w + q - 1) / q) := by
  unfold zcut
  rw [if_pos (by rw [← nI_0]; exact (nI_ltI (by omega) (by omega)).mpr hq), nI_add, show (1 : Int32) = nI 1 from rfl, nI_sub (by omega), nI_div (by omega) hq (by omega)]
theorem zl_lt {x y : Int32} : x.toInt64 < y.toInt64 ↔ x < y := by
  rw [Int64.lt_iff_toInt_lt, Int32.lt_iff_toInt_lt, Int32.toInt_toInt64, Int32.toInt_toInt64]
theorem zl_eq {x y : Int32} : x.toInt64 = y.toInt64 ↔ x = y := by
  rw [← Int64.toInt_inj, ← Int32.toInt_inj, Int32.toInt_toInt64, Int32.toInt_toInt64]
theorem lgc_lt {a b : Int64} : lg_cmp a b < 0 ↔ a < b := by
  unfold lg_cmp
  by_cases h1 : b < a
  · simp only [h1, if_true]
    constructor
    · intro h; exact absurd h (by decide)
    · intro h; exact absurd (Int64.lt_trans h h1) (Int64.lt_irrefl)
  · by_cases h2 : a = b
    · subst h2
      simp only [if_neg h1, if_true]
      constructor
      · intro h; exact absurd h (by decide)
      · intro h; exact absurd h h1
    · simp only [if_neg h1, if_neg h2]
      constructor
      · intro _; exact Int64.lt_of_le_of_ne (Int64.not_lt.mp h1) h2
      · intro _; decide
theorem lgc_gt {a b : Int64} : 0 < lg_cmp a b ↔ b < a := by
  unfold lg_cmp
  by_cases h1 : b < a
  · simp only [h1, if_true]
    decide
  · by_cases h2 : a = b
    · subst h2
      simp only [if_neg h1, if_true]
      constructor
      · intro h; exact absurd h (by decide)
      · intro h; exact absurd h h1
    · simp only [if_neg h1, if_neg h2]
      constructor
      · intro h; exact absurd h (by decide)
      · intro h; exact absurd h h1
theorem s143 (L : Nat) (a b c : Int64) (M : zM) : zden (L + 1) 143 0 [some (.long a), none, some (.long b), none, some (.long c), none] [] M = some (some (.int (zb (!decide (a < b) && !decide (c < a)))), M) := by
  rw [e143_0]
  by_cases h0 : a < b
  · rw [if_pos (lgc_lt.mpr h0)]
    simp [h0, e143_17, e143_18, zfit_0, zb]
  · rw [if_neg (fun h => h0 (lgc_lt.mp h))]
    by_cases h1 : c < a
    · rw [if_pos (lgc_gt.mpr h1)]
      simp [h0, h1, e143_17, e143_18, zfit_0, zb]
    · rw [if_neg (fun h => h1 (lgc_gt.mp h))]
      simp [h0, h1, e143_18, zfit_1, zb]
theorem s143i (L : Nat) (x a b : Int32) {A B : Int64} (hA : a.toInt64 = A) (hB : b.toInt64 = B) (M : zM) : zden (L + 1) 143 0 [some (.long x.toInt64), none, some (.long A), none, some (.long B), none] [] M = some (some (.int (zb (!decide (x < a) && !decide (b < x)))), M) := by
  rw [s143, ← hA, ← hB]
  simp only [zl_lt]
def zrng (x a b : Int32) : Bool := !decide (x < a) && !decide (b < x)
theorem zrng_nI {x : Int32} {b : Nat} (hb : b < 2 ^ 31) (h : zrng x 0 (nI b) = true) : ∃ j : Nat, j ≤ b ∧ x = nI j := by
  simp only [zrng, Bool.and_eq_true, Bool.not_eq_true', decide_eq_false_iff_not] at h
  exact nI_of2 (nI_toInt hb) h.1 (Int32.not_lt.mp h.2)
theorem zput_at (M : zM) (i j : Nat) (x : Int32) : zput M i j x i j = x := by simp [zput]
theorem zput_o (M : zM) {i j a b : Nat} (x : Int32) (h : a ≠ i ∨ b ≠ j) : zput M i j x a b = M a b := by
  unfold zput
  rw [if_neg]
  rintro ⟨h1, h2⟩
  rcases h with h | h
  · exact h h1
  · exact h h2
