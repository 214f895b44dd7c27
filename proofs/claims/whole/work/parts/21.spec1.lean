def zb (b : Bool) : Int32 := if b = true then 1 else 0
theorem zb_true : zb true = 1 := rfl
theorem zb_false : zb false = 0 := rfl
theorem zb_eq0 (b : Bool) : (zb b = 0) ↔ b = false := by cases b <;> simp [zb]
theorem zb_eq1 (b : Bool) : (zb b = 1) ↔ b = true := by cases b <;> simp [zb]
theorem zfit_zb (b : Bool) : zfit (some .boolean) (zb b) = true := by cases b <;> decide
theorem zfit_0 : zfit (some .boolean) 0 = true := by decide
theorem zfit_1 : zfit (some .boolean) 1 = true := by decide
def zrd (n : Nat) (f : Nat → Int32) (i : Int32) : Int32 := if zinb i n = true then f i.toNatClampNeg else 0
def zwr (M : zM) (a n : Nat) (i x : Int32) : zM := if zinb i n = true then zput M a i.toNatClampNeg x else M
def zcut (w p : Int32) : Int32 := if 0 < p then (w + p - 1) / p else 0
theorem zinb_iff {i : Int32} {n : Nat} : zinb i n = true ↔ 0 ≤ i ∧ i.toNatClampNeg < n := by simp [zinb]
theorem zi_lt {a b : Int32} : a < b ↔ a.toInt < b.toInt := Int32.lt_iff_toInt_lt
theorem zi_le {a b : Int32} : a ≤ b ↔ a.toInt ≤ b.toInt := Int32.le_iff_toInt_le
theorem zi_eq {a b : Int32} : a = b ↔ a.toInt = b.toInt := Int32.toInt_inj.symm
theorem zi_nat {a : Int32} : a.toNatClampNeg = a.toInt.toNat := rfl
theorem zi_of {n : Nat} (h : n < 2147483648) : (Int32.ofNat n).toInt = n := Int32.toInt_ofNat_of_lt (by simpa using h)
theorem zinb_of {i : Int32} {n : Nat} (hn : n < 2147483648) (h0 : ¬ i < 0) (h : i < Int32.ofNat n) : zinb i n = true := by
  rw [zinb_iff]
  have h1 : 0 ≤ i := Int32.not_lt.mp h0
  refine ⟨h1, ?_⟩
  rw [zi_lt, zi_of hn] at h
  rw [zi_le] at h1
  rw [zi_nat]
  have : (0 : Int32).toInt = 0 := by decide
  omega
theorem zinb_lo {i : Int32} {n : Nat} (h0 : i < 0) : ¬ zinb i n = true := by
  rw [zinb_iff]
  intro h
  exact Int32.not_lt.mpr h.1 h0
theorem zinb_hi {i : Int32} {n : Nat} (hn : n < 2147483648) (h : ¬ i < Int32.ofNat n) : ¬ zinb i n = true := by
  rw [zinb_iff]
  rintro ⟨h1, h2⟩
  apply h
  rw [zi_lt, zi_of hn]
  rw [zi_le] at h1
  rw [zi_nat] at h2
  have : (0 : Int32).toInt = 0 := by decide
  omega
theorem s4_2 (L : Nat) (i : Int32) (M : zM) : zden (L + 1) 4 0 [some (.ref 2), some (.int i)] [] M = some (some (.int (zrd 12 (M 2) i)), M) := by
  rw [e4_2_0]
  by_cases h0 : i < 0
  · rw [if_pos h0, e4_2_16, e4_2_17, zrd, if_neg (zinb_lo h0)]
  · rw [if_neg h0]
    by_cases h1 : i < 12
    · have hb := zinb_of (n := 12) (by omega) h0 h1
      rw [if_pos h1, if_pos hb, e4_2_17, zrd, if_pos hb]
    · rw [if_neg h1, e4_2_16, e4_2_17, zrd, if_neg (zinb_hi (n := 12) (by omega) h1)]
theorem s4_3 (L : Nat) (i : Int32) (M : zM) : zden (L + 1) 4 0 [some (.ref 3), some (.int i)] [] M = some (some (.int (zrd 12 (M 3) i)), M) := by
  rw [e4_3_0]
  by_cases h0 : i < 0
  · rw [if_pos h0, e4_3_16, e4_3_17, zrd, if_neg (zinb_lo h0)]
  · rw [if_neg h0]
    by_cases h1 : i < 12
    · have hb := zinb_of (n := 12) (by omega) h0 h1
      rw [if_pos h1, if_pos hb, e4_3_17, zrd, if_pos hb]
    · rw [if_neg h1, e4_3_16, e4_3_17, zrd, if_neg (zinb_hi (n := 12) (by omega) h1)]
theorem s4_5 (L : Nat) (i : Int32) (M : zM) : zden (L + 1) 4 0 [some (.ref 5), some (.int i)] [] M = some (some (.int (zrd 4 (M 5) i)), M) := by
  rw [e4_5_0]
  by_cases h0 : i < 0
  · rw [if_pos h0, e4_5_16, e4_5_17, zrd, if_neg (zinb_lo h0)]
  · rw [if_neg h0]
    by_cases h1 : i < 4
    · have hb := zinb_of (n := 4) (by omega) h0 h1
      rw [if_pos h1, if_pos hb, e4_5_17, zrd, if_pos hb]
    · rw [if_neg h1, e4_5_16, e4_5_17, zrd, if_neg (zinb_hi (n := 4) (by omega) h1)]
theorem s4_6 (L : Nat) (i : Int32) (M : zM) : zden (L + 1) 4 0 [some (.ref 6), some (.int i)] [] M = some (some (.int (zrd 4 (M 6) i)), M) := by
  rw [e4_6_0]
  by_cases h0 : i < 0
  · rw [if_pos h0, e4_6_16, e4_6_17, zrd, if_neg (zinb_lo h0)]
  · rw [if_neg h0]
    by_cases h1 : i < 4
    · have hb := zinb_of (n := 4) (by omega) h0 h1
      rw [if_pos h1, if_pos hb, e4_6_17, zrd, if_pos hb]
    · rw [if_neg h1, e4_6_16, e4_6_17, zrd, if_neg (zinb_hi (n := 4) (by omega) h1)]
theorem s4_7 (L : Nat) (i : Int32) (M : zM) : zden (L + 1) 4 0 [some (.ref 7), some (.int i)] [] M = some (some (.int (zrd 24 (M 7) i)), M) := by
  rw [e4_7_0]
  by_cases h0 : i < 0
  · rw [if_pos h0, e4_7_16, e4_7_17, zrd, if_neg (zinb_lo h0)]
  · rw [if_neg h0]
    by_cases h1 : i < 24
    · have hb := zinb_of (n := 24) (by omega) h0 h1
      rw [if_pos h1, if_pos hb, e4_7_17, zrd, if_pos hb]
    · rw [if_neg h1, e4_7_16, e4_7_17, zrd, if_neg (zinb_hi (n := 24) (by omega) h1)]
theorem s4_8 (L : Nat) (i : Int32) (M : zM) : zden (L + 1) 4 0 [some (.ref 8), some (.int i)] [] M = some (some (.int (zrd 7 (M 8) i)), M) := by
  rw [e4_8_0]
  by_cases h0 : i < 0
  · rw [if_pos h0, e4_8_16, e4_8_17, zrd, if_neg (zinb_lo h0)]
  · rw [if_neg h0]
    by_cases h1 : i < 7
    · have hb := zinb_of (n := 7) (by omega) h0 h1
      rw [if_pos h1, if_pos hb, e4_8_17, zrd, if_pos hb]
    · rw [if_neg h1, e4_8_16, e4_8_17, zrd, if_neg (zinb_hi (n := 7) (by omega) h1)]
theorem s4_40 (L : Nat) (i : Int32) (M : zM) : zden (L + 1) 4 0 [some (.ref 40), some (.int i)] [] M = some (some (.int (zrd 6 (M 40) i)), M) := by
  rw [e4_40_0]
  by_cases h0 : i < 0
  · rw [if_pos h0, e4_40_16, e4_40_17, zrd, if_neg (zinb_lo h0)]
  · rw [if_neg h0]
    by_cases h1 : i < 6
    · have hb := zinb_of (n := 6) (by omega) h0 h1
      rw [if_pos h1, if_pos hb, e4_40_17, zrd, if_pos hb]
    · rw [if_neg h1, e4_40_16, e4_40_17, zrd, if_neg (zinb_hi (n := 6) (by omega) h1)]
theorem s5_47 (L : Nat) (i x : Int32) (M : zM) : zden (L + 1) 5 0 [some (.ref 47), some (.int i), some (.int x)] [] M = some (none, zwr M 47 20 i x) := by
  rw [e5_47_0]
  by_cases h0 : i < 0
  · rw [if_pos h0, e5_47_14, zwr, if_neg (zinb_lo h0)]
  · rw [if_neg h0]
    by_cases h1 : i < 20
    · have hb := zinb_of (n := 20) (by omega) h0 h1
      rw [if_pos h1, if_pos hb, e5_47_14, zwr, if_pos hb]
    · rw [if_neg h1, e5_47_14, zwr, if_neg (zinb_hi (n := 20) (by omega) h1)]
theorem s4_47 (L : Nat) (i : Int32) (M : zM) : zden (L + 1) 4 0 [some (.ref 47), some (.int i)] [] M = some (some (.int (zrd 20 (M 47) i)), M) := by
  rw [e4_47_0]
  by_cases h0 : i < 0
  · rw [if_pos h0, e4_47_16, e4_47_17, zrd, if_neg (zinb_lo h0)]
  · rw [if_neg h0]
    by_cases h1 : i < 20
    · have hb := zinb_of (n := 20) (by omega) h0 h1
      rw [if_pos h1, if_pos hb, e4_47_17, zrd, if_pos hb]
    · rw [if_neg h1, e4_47_16, e4_47_17, zrd, if_neg (zinb_hi (n := 20) (by omega) h1)]
theorem s5_4 (L : Nat) (i x : Int32) (M : zM) : zden (L + 1) 5 0 [some (.ref 4), some (.int i), some (.int x)] [] M = some (none, zwr M 4 12 i x) := by
  rw [e5_4_0]
  by_cases h0 : i < 0
  · rw [if_pos h0, e5_4_14, zwr, if_neg (zinb_lo h0)]
  · rw [if_neg h0]
    by_cases h1 : i < 12
    · have hb := zinb_of (n := 12) (by omega) h0 h1
      rw [if_pos h1, if_pos hb, e5_4_14, zwr, if_pos hb]
    · rw [if_neg h1, e5_4_14, zwr, if_neg (zinb_hi (n := 12) (by omega) h1)]
theorem s5_42 (L : Nat) (i x : Int32) (M : zM) : zden (L + 1) 5 0 [some (.ref 42), some (.int i), some (.int x)] [] M = some (none, zwr M 42 8 i x) := by
  rw [e5_42_0]
  by_cases h0 : i < 0
  · rw [if_pos h0, e5_42_14, zwr, if_neg (zinb_lo h0)]
  · rw [if_neg h0]
    by_cases h1 : i < 8
    · have hb := zinb_of (n := 8) (by omega) h0 h1
      rw [if_pos h1, if_pos hb, e5_42_14, zwr, if_pos hb]
    · rw [if_neg h1, e5_42_14, zwr, if_neg (zinb_hi (n := 8) (by omega) h1)]
theorem s4_42 (L : Nat) (i : Int32) (M : zM) : zden (L + 1) 4 0 [some (.ref 42), some (.int i)] [] M = some (some (.int (zrd 8 (M 42) i)), M) := by
  rw [e4_42_0]
  by_cases h0 : i < 0
  · rw [if_pos h0, e4_42_16, e4_42_17, zrd, if_neg (zinb_lo h0)]
  · rw [if_neg h0]
    by_cases h1 : i < 8
    · have hb := zinb_of (n := 8) (by omega) h0 h1
      rw [if_pos h1, if_pos hb, e4_42_17, zrd, if_pos hb]
    · rw [if_neg h1, e4_42_16, e4_42_17, zrd, if_neg (zinb_hi (n := 8) (by omega) h1)]
theorem s5E_2 (i x : Int32) (M : zM) : zden 0 5 0 [some (.ref 2), some (.int i), some (.int x)] [] M = some (none, zwr M 2 12 i x) := by
  rw [e5E_2_0]
  by_cases h0 : i < 0
  · rw [if_pos h0, e5E_2_14, zwr, if_neg (zinb_lo h0)]
  · rw [if_neg h0]
    by_cases h1 : i < 12
    · have hb := zinb_of (n := 12) (by omega) h0 h1
      rw [if_pos h1, if_pos hb, e5E_2_14, zwr, if_pos hb]
    · rw [if_neg h1, e5E_2_14, zwr, if_neg (zinb_hi (n := 12) (by omega) h1)]
theorem s5E_3 (i x : Int32) (M : zM) : zden 0 5 0 [some (.ref 3), some (.int i), some (.int x)] [] M = some (none, zwr M 3 12 i x) := by
  rw [e5E_3_0]
  by_cases h0 : i < 0
  · rw [if_pos h0, e5E_3_14, zwr, if_neg (zinb_lo h0)]
  · rw [if_neg h0]
    by_cases h1 : i < 12
    · have hb := zinb_of (n := 12) (by omega) h0 h1
      rw [if_pos h1, if_pos hb, e5E_3_14, zwr, if_pos hb]
    · rw [if_neg h1, e5E_3_14, zwr, if_neg (zinb_hi (n := 12) (by omega) h1)]
theorem s5E_40 (i x : Int32) (M : zM) : zden 0 5 0 [some (.ref 40), some (.int i), some (.int x)] [] M = some (none, zwr M 40 6 i x) := by
  rw [e5E_40_0]
  by_cases h0 : i < 0
  · rw [if_pos h0, e5E_40_14, zwr, if_neg (zinb_lo h0)]
  · rw [if_neg h0]
    by_cases h1 : i < 6
    · have hb := zinb_of (n := 6) (by omega) h0 h1
      rw [if_pos h1, if_pos hb, e5E_40_14, zwr, if_pos hb]
    · rw [if_neg h1, e5E_40_14, zwr, if_neg (zinb_hi (n := 6) (by omega) h1)]
theorem s5_40 (L : Nat) (i x : Int32) (M : zM) : zden (L + 1) 5 0 [some (.ref 40), some (.int i), some (.int x)] [] M = some (none, zwr M 40 6 i x) := by
  rw [e5_40_0]
  by_cases h0 : i < 0
  · rw [if_pos h0, e5_40_14, zwr, if_neg (zinb_lo h0)]
  · rw [if_neg h0]
    by_cases h1 : i < 6
    · have hb := zinb_of (n := 6) (by omega) h0 h1
      rw [if_pos h1, if_pos hb, e5_40_14, zwr, if_pos hb]
    · rw [if_neg h1, e5_40_14, zwr, if_neg (zinb_hi (n := 6) (by omega) h1)]
theorem s4_67 (L : Nat) (i : Int32) (M : zM) : zden (L + 1) 4 0 [some (.ref 67), some (.int i)] [] M = some (some (.int (zrd 3 (M 67) i)), M) := by
  rw [e4_67_0]
  by_cases h0 : i < 0
  · rw [if_pos h0, e4_67_16, e4_67_17, zrd, if_neg (zinb_lo h0)]
  · rw [if_neg h0]
    by_cases h1 : i < 3
    · have hb := zinb_of (n := 3) (by omega) h0 h1
      rw [if_pos h1, if_pos hb, e4_67_17, zrd, if_pos hb]
    · rw [if_neg h1, e4_67_16, e4_67_17, zrd, if_neg (zinb_hi (n := 3) (by omega) h1)]
theorem s4_68 (L : Nat) (i : Int32) (M : zM) : zden (L + 1) 4 0 [some (.ref 68), some (.int i)] [] M = some (some (.int (zrd 3 (M 68) i)), M) := by
  rw [e4_68_0]
  by_cases h0 : i < 0
  · rw [if_pos h0, e4_68_16, e4_68_17, zrd, if_neg (zinb_lo h0)]
  · rw [if_neg h0]
    by_cases h1 : i < 3
    · have hb := zinb_of (n := 3) (by omega) h0 h1
      rw [if_pos h1, if_pos hb, e4_68_17, zrd, if_pos hb]
    · rw [if_neg h1, e4_68_16, e4_68_17, zrd, if_neg (zinb_hi (n := 3) (by omega) h1)]
theorem s4_44 (L : Nat) (i : Int32) (M : zM) : zden (L + 1) 4 0 [some (.ref 44), some (.int i)] [] M = some (some (.int (zrd 48 (M 44) i)), M) := by
  rw [e4_44_0]
  by_cases h0 : i < 0
  · rw [if_pos h0, e4_44_16, e4_44_17, zrd, if_neg (zinb_lo h0)]
  · rw [if_neg h0]
    by_cases h1 : i < 48
    · have hb := zinb_of (n := 48) (by omega) h0 h1
      rw [if_pos h1, if_pos hb, e4_44_17, zrd, if_pos hb]
    · rw [if_neg h1, e4_44_16, e4_44_17, zrd, if_neg (zinb_hi (n := 48) (by omega) h1)]
theorem s5_31 (L : Nat) (i x : Int32) (M : zM) : zden (L + 1) 5 0 [some (.ref 31), some (.int i), some (.int x)] [] M = some (none, zwr M 31 100 i x) := by
  rw [e5_31_0]
  by_cases h0 : i < 0
  · rw [if_pos h0, e5_31_14, zwr, if_neg (zinb_lo h0)]
  · rw [if_neg h0]
    by_cases h1 : i < 100
    · have hb := zinb_of (n := 100) (by omega) h0 h1
      rw [if_pos h1, if_pos hb, e5_31_14, zwr, if_pos hb]
    · rw [if_neg h1, e5_31_14, zwr, if_neg (zinb_hi (n := 100) (by omega) h1)]
theorem s5_34 (L : Nat) (i x : Int32) (M : zM) : zden (L + 1) 5 0 [some (.ref 34), some (.int i), some (.int x)] [] M = some (none, zwr M 34 24100 i x) := by
  rw [e5_34_0]
  by_cases h0 : i < 0
  · rw [if_pos h0, e5_34_14, zwr, if_neg (zinb_lo h0)]
  · rw [if_neg h0]
    by_cases h1 : i < 24100
    · have hb := zinb_of (n := 24100) (by omega) h0 h1
      rw [if_pos h1, if_pos hb, e5_34_14, zwr, if_pos hb]
    · rw [if_neg h1, e5_34_14, zwr, if_neg (zinb_hi (n := 24100) (by omega) h1)]
theorem s4_37 (L : Nat) (i : Int32) (M : zM) : zden (L + 1) 4 0 [some (.ref 37), some (.int i)] [] M = some (some (.int (zrd 24 (M 37) i)), M) := by
  rw [e4_37_0]
  by_cases h0 : i < 0
  · rw [if_pos h0, e4_37_16, e4_37_17, zrd, if_neg (zinb_lo h0)]
  · rw [if_neg h0]
    by_cases h1 : i < 24
    · have hb := zinb_of (n := 24) (by omega) h0 h1
      rw [if_pos h1, if_pos hb, e4_37_17, zrd, if_pos hb]
    · rw [if_neg h1, e4_37_16, e4_37_17, zrd, if_neg (zinb_hi (n := 24) (by omega) h1)]
theorem s4_39 (L : Nat) (i : Int32) (M : zM) : zden (L + 1) 4 0 [some (.ref 39), some (.int i)] [] M = some (some (.int (zrd 49 (M 39) i)), M) := by
  rw [e4_39_0]
  by_cases h0 : i < 0
  · rw [if_pos h0, e4_39_16, e4_39_17, zrd, if_neg (zinb_lo h0)]
  · rw [if_neg h0]
    by_cases h1 : i < 49
    · have hb := zinb_of (n := 49) (by omega) h0 h1
      rw [if_pos h1, if_pos hb, e4_39_17, zrd, if_pos hb]
    · rw [if_neg h1, e4_39_16, e4_39_17, zrd, if_neg (zinb_hi (n := 49) (by omega) h1)]
theorem s4_10 (L : Nat) (i : Int32) (M : zM) : zden (L + 1) 4 0 [some (.ref 10), some (.int i)] [] M = some (some (.int (zrd 10 (M 10) i)), M) := by
  rw [e4_10_0]
  by_cases h0 : i < 0
  · rw [if_pos h0, e4_10_16, e4_10_17, zrd, if_neg (zinb_lo h0)]
  · rw [if_neg h0]
    by_cases h1 : i < 10
    · have hb := zinb_of (n := 10) (by omega) h0 h1
      rw [if_pos h1, if_pos hb, e4_10_17, zrd, if_pos hb]
    · rw [if_neg h1, e4_10_16, e4_10_17, zrd, if_neg (zinb_hi (n := 10) (by omega) h1)]
theorem s4_11 (L : Nat) (i : Int32) (M : zM) : zden (L + 1) 4 0 [some (.ref 11), some (.int i)] [] M = some (some (.int (zrd 10 (M 11) i)), M) := by
  rw [e4_11_0]
  by_cases h0 : i < 0
  · rw [if_pos h0, e4_11_16, e4_11_17, zrd, if_neg (zinb_lo h0)]
  · rw [if_neg h0]
    by_cases h1 : i < 10
    · have hb := zinb_of (n := 10) (by omega) h0 h1
      rw [if_pos h1, if_pos hb, e4_11_17, zrd, if_pos hb]
    · rw [if_neg h1, e4_11_16, e4_11_17, zrd, if_neg (zinb_hi (n := 10) (by omega) h1)]
theorem s4_9 (L : Nat) (i : Int32) (M : zM) : zden (L + 1) 4 0 [some (.ref 9), some (.int i)] [] M = some (some (.int (zrd 10 (M 9) i)), M) := by
  rw [e4_9_0]
  by_cases h0 : i < 0
  · rw [if_pos h0, e4_9_16, e4_9_17, zrd, if_neg (zinb_lo h0)]
  · rw [if_neg h0]
    by_cases h1 : i < 10
    · have hb := zinb_of (n := 10) (by omega) h0 h1
      rw [if_pos h1, if_pos hb, e4_9_17, zrd, if_pos hb]
    · rw [if_neg h1, e4_9_16, e4_9_17, zrd, if_neg (zinb_hi (n := 10) (by omega) h1)]
theorem s5_37 (L : Nat) (i x : Int32) (M : zM) : zden (L + 1) 5 0 [some (.ref 37), some (.int i), some (.int x)] [] M = some (none, zwr M 37 24 i x) := by
  rw [e5_37_0]
  by_cases h0 : i < 0
  · rw [if_pos h0, e5_37_14, zwr, if_neg (zinb_lo h0)]
  · rw [if_neg h0]
    by_cases h1 : i < 24
    · have hb := zinb_of (n := 24) (by omega) h0 h1
      rw [if_pos h1, if_pos hb, e5_37_14, zwr, if_pos hb]
    · rw [if_neg h1, e5_37_14, zwr, if_neg (zinb_hi (n := 24) (by omega) h1)]
theorem s5_46 (L : Nat) (i x : Int32) (M : zM) : zden (L + 1) 5 0 [some (.ref 46), some (.int i), some (.int x)] [] M = some (none, zwr M 46 16 i x) := by
  rw [e5_46_0]
  by_cases h0 : i < 0
  · rw [if_pos h0, e5_46_14, zwr, if_neg (zinb_lo h0)]
  · rw [if_neg h0]
    by_cases h1 : i < 16
    · have hb := zinb_of (n := 16) (by omega) h0 h1
      rw [if_pos h1, if_pos hb, e5_46_14, zwr, if_pos hb]
    · rw [if_neg h1, e5_46_14, zwr, if_neg (zinb_hi (n := 16) (by omega) h1)]
theorem s4_46 (L : Nat) (i : Int32) (M : zM) : zden (L + 1) 4 0 [some (.ref 46), some (.int i)] [] M = some (some (.int (zrd 16 (M 46) i)), M) := by
  rw [e4_46_0]
  by_cases h0 : i < 0
  · rw [if_pos h0, e4_46_16, e4_46_17, zrd, if_neg (zinb_lo h0)]
  · rw [if_neg h0]
    by_cases h1 : i < 16
    · have hb := zinb_of (n := 16) (by omega) h0 h1
      rw [if_pos h1, if_pos hb, e4_46_17, zrd, if_pos hb]
    · rw [if_neg h1, e4_46_16, e4_46_17, zrd, if_neg (zinb_hi (n := 16) (by omega) h1)]
theorem s5_44 (L : Nat) (i x : Int32) (M : zM) : zden (L + 1) 5 0 [some (.ref 44), some (.int i), some (.int x)] [] M = some (none, zwr M 44 48 i x) := by
  rw [e5_44_0]
  by_cases h0 : i < 0
  · rw [if_pos h0, e5_44_14, zwr, if_neg (zinb_lo h0)]
  · rw [if_neg h0]
    by_cases h1 : i < 48
    · have hb := zinb_of (n := 48) (by omega) h0 h1
      rw [if_pos h1, if_pos hb, e5_44_14, zwr, if_pos hb]
    · rw [if_neg h1, e5_44_14, zwr, if_neg (zinb_hi (n := 48) (by omega) h1)]
theorem s4_41 (L : Nat) (i : Int32) (M : zM) : zden (L + 1) 4 0 [some (.ref 41), some (.int i)] [] M = some (some (.int (zrd 6 (M 41) i)), M) := by
  rw [e4_41_0]
  by_cases h0 : i < 0
  · rw [if_pos h0, e4_41_16, e4_41_17, zrd, if_neg (zinb_lo h0)]
  · rw [if_neg h0]
    by_cases h1 : i < 6
    · have hb := zinb_of (n := 6) (by omega) h0 h1
      rw [if_pos h1, if_pos hb, e4_41_17, zrd, if_pos hb]
    · rw [if_neg h1, e4_41_16, e4_41_17, zrd, if_neg (zinb_hi (n := 6) (by omega) h1)]
theorem s5_41 (L : Nat) (i x : Int32) (M : zM) : zden (L + 1) 5 0 [some (.ref 41), some (.int i), some (.int x)] [] M = some (none, zwr M 41 6 i x) := by
  rw [e5_41_0]
  by_cases h0 : i < 0
  · rw [if_pos h0, e5_41_14, zwr, if_neg (zinb_lo h0)]
  · rw [if_neg h0]
    by_cases h1 : i < 6
    · have hb := zinb_of (n := 6) (by omega) h0 h1
      rw [if_pos h1, if_pos hb, e5_41_14, zwr, if_pos hb]
    · rw [if_neg h1, e5_41_14, zwr, if_neg (zinb_hi (n := 6) (by omega) h1)]
theorem s5_32 (L : Nat) (i x : Int32) (M : zM) : zden (L + 1) 5 0 [some (.ref 32), some (.int i), some (.int x)] [] M = some (none, zwr M 32 3 i x) := by
  rw [e5_32_0]
  by_cases h0 : i < 0
  · rw [if_pos h0, e5_32_14, zwr, if_neg (zinb_lo h0)]
  · rw [if_neg h0]
    by_cases h1 : i < 3
    · have hb := zinb_of (n := 3) (by omega) h0 h1
      rw [if_pos h1, if_pos hb, e5_32_14, zwr, if_pos hb]
    · rw [if_neg h1, e5_32_14, zwr, if_neg (zinb_hi (n := 3) (by omega) h1)]
theorem s4_27 (L : Nat) (i : Int32) (M : zM) : zden (L + 1) 4 0 [some (.ref 27), some (.int i)] [] M = some (some (.int (zrd 3 (M 27) i)), M) := by
  rw [e4_27_0]
  by_cases h0 : i < 0
  · rw [if_pos h0, e4_27_16, e4_27_17, zrd, if_neg (zinb_lo h0)]
  · rw [if_neg h0]
    by_cases h1 : i < 3
    · have hb := zinb_of (n := 3) (by omega) h0 h1
      rw [if_pos h1, if_pos hb, e4_27_17, zrd, if_pos hb]
    · rw [if_neg h1, e4_27_16, e4_27_17, zrd, if_neg (zinb_hi (n := 3) (by omega) h1)]
theorem s4_30 (L : Nat) (i : Int32) (M : zM) : zden (L + 1) 4 0 [some (.ref 30), some (.int i)] [] M = some (some (.int (zrd 100 (M 30) i)), M) := by
  rw [e4_30_0]
  by_cases h0 : i < 0
  · rw [if_pos h0, e4_30_16, e4_30_17, zrd, if_neg (zinb_lo h0)]
  · rw [if_neg h0]
    by_cases h1 : i < 100
    · have hb := zinb_of (n := 100) (by omega) h0 h1
      rw [if_pos h1, if_pos hb, e4_30_17, zrd, if_pos hb]
    · rw [if_neg h1, e4_30_16, e4_30_17, zrd, if_neg (zinb_hi (n := 100) (by omega) h1)]
theorem s4_32 (L : Nat) (i : Int32) (M : zM) : zden (L + 1) 4 0 [some (.ref 32), some (.int i)] [] M = some (some (.int (zrd 3 (M 32) i)), M) := by
  rw [e4_32_0]
  by_cases h0 : i < 0
  · rw [if_pos h0, e4_32_16, e4_32_17, zrd, if_neg (zinb_lo h0)]
  · rw [if_neg h0]
    by_cases h1 : i < 3
    · have hb := zinb_of (n := 3) (by omega) h0 h1
      rw [if_pos h1, if_pos hb, e4_32_17, zrd, if_pos hb]
    · rw [if_neg h1, e4_32_16, e4_32_17, zrd, if_neg (zinb_hi (n := 3) (by omega) h1)]
theorem s5_27 (L : Nat) (i x : Int32) (M : zM) : zden (L + 1) 5 0 [some (.ref 27), some (.int i), some (.int x)] [] M = some (none, zwr M 27 3 i x) := by
  rw [e5_27_0]
  by_cases h0 : i < 0
  · rw [if_pos h0, e5_27_14, zwr, if_neg (zinb_lo h0)]
  · rw [if_neg h0]
    by_cases h1 : i < 3
    · have hb := zinb_of (n := 3) (by omega) h0 h1
      rw [if_pos h1, if_pos hb, e5_27_14, zwr, if_pos hb]
    · rw [if_neg h1, e5_27_14, zwr, if_neg (zinb_hi (n := 3) (by omega) h1)]
theorem s5_28 (L : Nat) (i x : Int32) (M : zM) : zden (L + 1) 5 0 [some (.ref 28), some (.int i), some (.int x)] [] M = some (none, zwr M 28 3 i x) := by
  rw [e5_28_0]
  by_cases h0 : i < 0
  · rw [if_pos h0, e5_28_14, zwr, if_neg (zinb_lo h0)]
  · rw [if_neg h0]
    by_cases h1 : i < 3
    · have hb := zinb_of (n := 3) (by omega) h0 h1
      rw [if_pos h1, if_pos hb, e5_28_14, zwr, if_pos hb]
    · rw [if_neg h1, e5_28_14, zwr, if_neg (zinb_hi (n := 3) (by omega) h1)]
theorem s4_28 (L : Nat) (i : Int32) (M : zM) : zden (L + 1) 4 0 [some (.ref 28), some (.int i)] [] M = some (some (.int (zrd 3 (M 28) i)), M) := by
  rw [e4_28_0]
  by_cases h0 : i < 0
  · rw [if_pos h0, e4_28_16, e4_28_17, zrd, if_neg (zinb_lo h0)]
  · rw [if_neg h0]
    by_cases h1 : i < 3
    · have hb := zinb_of (n := 3) (by omega) h0 h1
      rw [if_pos h1, if_pos hb, e4_28_17, zrd, if_pos hb]
    · rw [if_neg h1, e4_28_16, e4_28_17, zrd, if_neg (zinb_hi (n := 3) (by omega) h1)]
theorem s5_39 (L : Nat) (i x : Int32) (M : zM) : zden (L + 1) 5 0 [some (.ref 39), some (.int i), some (.int x)] [] M = some (none, zwr M 39 49 i x) := by
  rw [e5_39_0]
  by_cases h0 : i < 0
  · rw [if_pos h0, e5_39_14, zwr, if_neg (zinb_lo h0)]
  · rw [if_neg h0]
    by_cases h1 : i < 49
    · have hb := zinb_of (n := 49) (by omega) h0 h1
      rw [if_pos h1, if_pos hb, e5_39_14, zwr, if_pos hb]
    · rw [if_neg h1, e5_39_14, zwr, if_neg (zinb_hi (n := 49) (by omega) h1)]
theorem s4_64 (L : Nat) (i : Int32) (M : zM) : zden (L + 1) 4 0 [some (.ref 64), some (.int i)] [] M = some (some (.int (zrd 12 (M 64) i)), M) := by
  rw [e4_64_0]
  by_cases h0 : i < 0
  · rw [if_pos h0, e4_64_16, e4_64_17, zrd, if_neg (zinb_lo h0)]
  · rw [if_neg h0]
    by_cases h1 : i < 12
    · have hb := zinb_of (n := 12) (by omega) h0 h1
      rw [if_pos h1, if_pos hb, e4_64_17, zrd, if_pos hb]
    · rw [if_neg h1, e4_64_16, e4_64_17, zrd, if_neg (zinb_hi (n := 12) (by omega) h1)]
theorem s4_65 (L : Nat) (i : Int32) (M : zM) : zden (L + 1) 4 0 [some (.ref 65), some (.int i)] [] M = some (some (.int (zrd 36 (M 65) i)), M) := by
  rw [e4_65_0]
  by_cases h0 : i < 0
  · rw [if_pos h0, e4_65_16, e4_65_17, zrd, if_neg (zinb_lo h0)]
  · rw [if_neg h0]
    by_cases h1 : i < 36
    · have hb := zinb_of (n := 36) (by omega) h0 h1
      rw [if_pos h1, if_pos hb, e4_65_17, zrd, if_pos hb]
    · rw [if_neg h1, e4_65_16, e4_65_17, zrd, if_neg (zinb_hi (n := 36) (by omega) h1)]
theorem s4_66 (L : Nat) (i : Int32) (M : zM) : zden (L + 1) 4 0 [some (.ref 66), some (.int i)] [] M = some (some (.int (zrd 36 (M 66) i)), M) := by
  rw [e4_66_0]
  by_cases h0 : i < 0
  · rw [if_pos h0, e4_66_16, e4_66_17, zrd, if_neg (zinb_lo h0)]
  · rw [if_neg h0]
    by_cases h1 : i < 36
    · have hb := zinb_of (n := 36) (by omega) h0 h1
      rw [if_pos h1, if_pos hb, e4_66_17, zrd, if_pos hb]
    · rw [if_neg h1, e4_66_16, e4_66_17, zrd, if_neg (zinb_hi (n := 36) (by omega) h1)]
theorem s5_25 (L : Nat) (i x : Int32) (M : zM) : zden (L + 1) 5 0 [some (.ref 25), some (.int i), some (.int x)] [] M = some (none, zwr M 25 3 i x) := by
  rw [e5_25_0]
  by_cases h0 : i < 0
  · rw [if_pos h0, e5_25_14, zwr, if_neg (zinb_lo h0)]
  · rw [if_neg h0]
    by_cases h1 : i < 3
    · have hb := zinb_of (n := 3) (by omega) h0 h1
      rw [if_pos h1, if_pos hb, e5_25_14, zwr, if_pos hb]
    · rw [if_neg h1, e5_25_14, zwr, if_neg (zinb_hi (n := 3) (by omega) h1)]
theorem s4_34 (L : Nat) (i : Int32) (M : zM) : zden (L + 1) 4 0 [some (.ref 34), some (.int i)] [] M = some (some (.int (zrd 24100 (M 34) i)), M) := by
  rw [e4_34_0]
  by_cases h0 : i < 0
  · rw [if_pos h0, e4_34_16, e4_34_17, zrd, if_neg (zinb_lo h0)]
  · rw [if_neg h0]
    by_cases h1 : i < 24100
    · have hb := zinb_of (n := 24100) (by omega) h0 h1
      rw [if_pos h1, if_pos hb, e4_34_17, zrd, if_pos hb]
    · rw [if_neg h1, e4_34_16, e4_34_17, zrd, if_neg (zinb_hi (n := 24100) (by omega) h1)]
theorem s4_25 (L : Nat) (i : Int32) (M : zM) : zden (L + 1) 4 0 [some (.ref 25), some (.int i)] [] M = some (some (.int (zrd 3 (M 25) i)), M) := by
  rw [e4_25_0]
  by_cases h0 : i < 0
  · rw [if_pos h0, e4_25_16, e4_25_17, zrd, if_neg (zinb_lo h0)]
  · rw [if_neg h0]
    by_cases h1 : i < 3
    · have hb := zinb_of (n := 3) (by omega) h0 h1
      rw [if_pos h1, if_pos hb, e4_25_17, zrd, if_pos hb]
    · rw [if_neg h1, e4_25_16, e4_25_17, zrd, if_neg (zinb_hi (n := 3) (by omega) h1)]
theorem s5_13 (L : Nat) (i x : Int32) (M : zM) : zden (L + 1) 5 0 [some (.ref 13), some (.int i), some (.int x)] [] M = some (none, zwr M 13 12 i x) := by
  rw [e5_13_0]
  by_cases h0 : i < 0
  · rw [if_pos h0, e5_13_14, zwr, if_neg (zinb_lo h0)]
  · rw [if_neg h0]
    by_cases h1 : i < 12
    · have hb := zinb_of (n := 12) (by omega) h0 h1
      rw [if_pos h1, if_pos hb, e5_13_14, zwr, if_pos hb]
    · rw [if_neg h1, e5_13_14, zwr, if_neg (zinb_hi (n := 12) (by omega) h1)]
theorem s5_14 (L : Nat) (i x : Int32) (M : zM) : zden (L + 1) 5 0 [some (.ref 14), some (.int i), some (.int x)] [] M = some (none, zwr M 14 12 i x) := by
  rw [e5_14_0]
  by_cases h0 : i < 0
  · rw [if_pos h0, e5_14_14, zwr, if_neg (zinb_lo h0)]
  · rw [if_neg h0]
    by_cases h1 : i < 12
    · have hb := zinb_of (n := 12) (by omega) h0 h1
      rw [if_pos h1, if_pos hb, e5_14_14, zwr, if_pos hb]
    · rw [if_neg h1, e5_14_14, zwr, if_neg (zinb_hi (n := 12) (by omega) h1)]
theorem s5_15 (L : Nat) (i x : Int32) (M : zM) : zden (L + 1) 5 0 [some (.ref 15), some (.int i), some (.int x)] [] M = some (none, zwr M 15 12 i x) := by
  rw [e5_15_0]
  by_cases h0 : i < 0
  · rw [if_pos h0, e5_15_14, zwr, if_neg (zinb_lo h0)]
  · rw [if_neg h0]
    by_cases h1 : i < 12
    · have hb := zinb_of (n := 12) (by omega) h0 h1
      rw [if_pos h1, if_pos hb, e5_15_14, zwr, if_pos hb]
    · rw [if_neg h1, e5_15_14, zwr, if_neg (zinb_hi (n := 12) (by omega) h1)]
theorem s5_16 (L : Nat) (i x : Int32) (M : zM) : zden (L + 1) 5 0 [some (.ref 16), some (.int i), some (.int x)] [] M = some (none, zwr M 16 4 i x) := by
  rw [e5_16_0]
  by_cases h0 : i < 0
  · rw [if_pos h0, e5_16_14, zwr, if_neg (zinb_lo h0)]
  · rw [if_neg h0]
    by_cases h1 : i < 4
    · have hb := zinb_of (n := 4) (by omega) h0 h1
      rw [if_pos h1, if_pos hb, e5_16_14, zwr, if_pos hb]
    · rw [if_neg h1, e5_16_14, zwr, if_neg (zinb_hi (n := 4) (by omega) h1)]
theorem s5_17 (L : Nat) (i x : Int32) (M : zM) : zden (L + 1) 5 0 [some (.ref 17), some (.int i), some (.int x)] [] M = some (none, zwr M 17 4 i x) := by
  rw [e5_17_0]
  by_cases h0 : i < 0
  · rw [if_pos h0, e5_17_14, zwr, if_neg (zinb_lo h0)]
  · rw [if_neg h0]
    by_cases h1 : i < 4
    · have hb := zinb_of (n := 4) (by omega) h0 h1
      rw [if_pos h1, if_pos hb, e5_17_14, zwr, if_pos hb]
    · rw [if_neg h1, e5_17_14, zwr, if_neg (zinb_hi (n := 4) (by omega) h1)]
theorem s5_18 (L : Nat) (i x : Int32) (M : zM) : zden (L + 1) 5 0 [some (.ref 18), some (.int i), some (.int x)] [] M = some (none, zwr M 18 24 i x) := by
  rw [e5_18_0]
  by_cases h0 : i < 0
  · rw [if_pos h0, e5_18_14, zwr, if_neg (zinb_lo h0)]
  · rw [if_neg h0]
    by_cases h1 : i < 24
    · have hb := zinb_of (n := 24) (by omega) h0 h1
      rw [if_pos h1, if_pos hb, e5_18_14, zwr, if_pos hb]
    · rw [if_neg h1, e5_18_14, zwr, if_neg (zinb_hi (n := 24) (by omega) h1)]
theorem s5_19 (L : Nat) (i x : Int32) (M : zM) : zden (L + 1) 5 0 [some (.ref 19), some (.int i), some (.int x)] [] M = some (none, zwr M 19 7 i x) := by
  rw [e5_19_0]
  by_cases h0 : i < 0
  · rw [if_pos h0, e5_19_14, zwr, if_neg (zinb_lo h0)]
  · rw [if_neg h0]
    by_cases h1 : i < 7
    · have hb := zinb_of (n := 7) (by omega) h0 h1
      rw [if_pos h1, if_pos hb, e5_19_14, zwr, if_pos hb]
    · rw [if_neg h1, e5_19_14, zwr, if_neg (zinb_hi (n := 7) (by omega) h1)]
theorem s5_20 (L : Nat) (i x : Int32) (M : zM) : zden (L + 1) 5 0 [some (.ref 20), some (.int i), some (.int x)] [] M = some (none, zwr M 20 10 i x) := by
  rw [e5_20_0]
  by_cases h0 : i < 0
  · rw [if_pos h0, e5_20_14, zwr, if_neg (zinb_lo h0)]
  · rw [if_neg h0]
    by_cases h1 : i < 10
    · have hb := zinb_of (n := 10) (by omega) h0 h1
      rw [if_pos h1, if_pos hb, e5_20_14, zwr, if_pos hb]
    · rw [if_neg h1, e5_20_14, zwr, if_neg (zinb_hi (n := 10) (by omega) h1)]
theorem s5_21 (L : Nat) (i x : Int32) (M : zM) : zden (L + 1) 5 0 [some (.ref 21), some (.int i), some (.int x)] [] M = some (none, zwr M 21 10 i x) := by
  rw [e5_21_0]
  by_cases h0 : i < 0
  · rw [if_pos h0, e5_21_14, zwr, if_neg (zinb_lo h0)]
  · rw [if_neg h0]
    by_cases h1 : i < 10
    · have hb := zinb_of (n := 10) (by omega) h0 h1
      rw [if_pos h1, if_pos hb, e5_21_14, zwr, if_pos hb]
    · rw [if_neg h1, e5_21_14, zwr, if_neg (zinb_hi (n := 10) (by omega) h1)]
theorem s5_22 (L : Nat) (i x : Int32) (M : zM) : zden (L + 1) 5 0 [some (.ref 22), some (.int i), some (.int x)] [] M = some (none, zwr M 22 10 i x) := by
  rw [e5_22_0]
  by_cases h0 : i < 0
  · rw [if_pos h0, e5_22_14, zwr, if_neg (zinb_lo h0)]
  · rw [if_neg h0]
    by_cases h1 : i < 10
    · have hb := zinb_of (n := 10) (by omega) h0 h1
      rw [if_pos h1, if_pos hb, e5_22_14, zwr, if_pos hb]
    · rw [if_neg h1, e5_22_14, zwr, if_neg (zinb_hi (n := 10) (by omega) h1)]
theorem s5_2 (L : Nat) (i x : Int32) (M : zM) : zden (L + 1) 5 0 [some (.ref 2), some (.int i), some (.int x)] [] M = some (none, zwr M 2 12 i x) := by
  rw [e5_2_0]
  by_cases h0 : i < 0
  · rw [if_pos h0, e5_2_14, zwr, if_neg (zinb_lo h0)]
  · rw [if_neg h0]
    by_cases h1 : i < 12
    · have hb := zinb_of (n := 12) (by omega) h0 h1
      rw [if_pos h1, if_pos hb, e5_2_14, zwr, if_pos hb]
    · rw [if_neg h1, e5_2_14, zwr, if_neg (zinb_hi (n := 12) (by omega) h1)]
theorem s5_3 (L : Nat) (i x : Int32) (M : zM) : zden (L + 1) 5 0 [some (.ref 3), some (.int i), some (.int x)] [] M = some (none, zwr M 3 12 i x) := by
  rw [e5_3_0]
  by_cases h0 : i < 0
  · rw [if_pos h0, e5_3_14, zwr, if_neg (zinb_lo h0)]
  · rw [if_neg h0]
    by_cases h1 : i < 12
    · have hb := zinb_of (n := 12) (by omega) h0 h1
      rw [if_pos h1, if_pos hb, e5_3_14, zwr, if_pos hb]
    · rw [if_neg h1, e5_3_14, zwr, if_neg (zinb_hi (n := 12) (by omega) h1)]
theorem s5_5 (L : Nat) (i x : Int32) (M : zM) : zden (L + 1) 5 0 [some (.ref 5), some (.int i), some (.int x)] [] M = some (none, zwr M 5 4 i x) := by
  rw [e5_5_0]
  by_cases h0 : i < 0
  · rw [if_pos h0, e5_5_14, zwr, if_neg (zinb_lo h0)]
  · rw [if_neg h0]
    by_cases h1 : i < 4
    · have hb := zinb_of (n := 4) (by omega) h0 h1
      rw [if_pos h1, if_pos hb, e5_5_14, zwr, if_pos hb]
    · rw [if_neg h1, e5_5_14, zwr, if_neg (zinb_hi (n := 4) (by omega) h1)]
theorem s5_6 (L : Nat) (i x : Int32) (M : zM) : zden (L + 1) 5 0 [some (.ref 6), some (.int i), some (.int x)] [] M = some (none, zwr M 6 4 i x) := by
  rw [e5_6_0]
  by_cases h0 : i < 0
  · rw [if_pos h0, e5_6_14, zwr, if_neg (zinb_lo h0)]
  · rw [if_neg h0]
    by_cases h1 : i < 4
    · have hb := zinb_of (n := 4) (by omega) h0 h1
      rw [if_pos h1, if_pos hb, e5_6_14, zwr, if_pos hb]
    · rw [if_neg h1, e5_6_14, zwr, if_neg (zinb_hi (n := 4) (by omega) h1)]
theorem s5_7 (L : Nat) (i x : Int32) (M : zM) : zden (L + 1) 5 0 [some (.ref 7), some (.int i), some (.int x)] [] M = some (none, zwr M 7 24 i x) := by
  rw [e5_7_0]
  by_cases h0 : i < 0
  · rw [if_pos h0, e5_7_14, zwr, if_neg (zinb_lo h0)]
  · rw [if_neg h0]
    by_cases h1 : i < 24
    · have hb := zinb_of (n := 24) (by omega) h0 h1
      rw [if_pos h1, if_pos hb, e5_7_14, zwr, if_pos hb]
    · rw [if_neg h1, e5_7_14, zwr, if_neg (zinb_hi (n := 24) (by omega) h1)]
theorem s5_8 (L : Nat) (i x : Int32) (M : zM) : zden (L + 1) 5 0 [some (.ref 8), some (.int i), some (.int x)] [] M = some (none, zwr M 8 7 i x) := by
  rw [e5_8_0]
  by_cases h0 : i < 0
  · rw [if_pos h0, e5_8_14, zwr, if_neg (zinb_lo h0)]
  · rw [if_neg h0]
    by_cases h1 : i < 7
    · have hb := zinb_of (n := 7) (by omega) h0 h1
      rw [if_pos h1, if_pos hb, e5_8_14, zwr, if_pos hb]
    · rw [if_neg h1, e5_8_14, zwr, if_neg (zinb_hi (n := 7) (by omega) h1)]
theorem s5_10 (L : Nat) (i x : Int32) (M : zM) : zden (L + 1) 5 0 [some (.ref 10), some (.int i), some (.int x)] [] M = some (none, zwr M 10 10 i x) := by
  rw [e5_10_0]
  by_cases h0 : i < 0
  · rw [if_pos h0, e5_10_14, zwr, if_neg (zinb_lo h0)]
  · rw [if_neg h0]
    by_cases h1 : i < 10
    · have hb := zinb_of (n := 10) (by omega) h0 h1
      rw [if_pos h1, if_pos hb, e5_10_14, zwr, if_pos hb]
    · rw [if_neg h1, e5_10_14, zwr, if_neg (zinb_hi (n := 10) (by omega) h1)]
theorem s5_11 (L : Nat) (i x : Int32) (M : zM) : zden (L + 1) 5 0 [some (.ref 11), some (.int i), some (.int x)] [] M = some (none, zwr M 11 10 i x) := by
  rw [e5_11_0]
  by_cases h0 : i < 0
  · rw [if_pos h0, e5_11_14, zwr, if_neg (zinb_lo h0)]
  · rw [if_neg h0]
    by_cases h1 : i < 10
    · have hb := zinb_of (n := 10) (by omega) h0 h1
      rw [if_pos h1, if_pos hb, e5_11_14, zwr, if_pos hb]
    · rw [if_neg h1, e5_11_14, zwr, if_neg (zinb_hi (n := 10) (by omega) h1)]
theorem s5_9 (L : Nat) (i x : Int32) (M : zM) : zden (L + 1) 5 0 [some (.ref 9), some (.int i), some (.int x)] [] M = some (none, zwr M 9 10 i x) := by
  rw [e5_9_0]
  by_cases h0 : i < 0
  · rw [if_pos h0, e5_9_14, zwr, if_neg (zinb_lo h0)]
  · rw [if_neg h0]
    by_cases h1 : i < 10
    · have hb := zinb_of (n := 10) (by omega) h0 h1
      rw [if_pos h1, if_pos hb, e5_9_14, zwr, if_pos hb]
    · rw [if_neg h1, e5_9_14, zwr, if_neg (zinb_hi (n := 10) (by omega) h1)]
theorem s46 (L : Nat) (v0 v1 v2 : Int32) (M : zM) : zden (L + 1) 46 0 [some (.int v0), some (.int v1), some (.int v2)] [] M = some (some (.int (zb (!decide (v0 < v1) && !decide (v2 < v0)))), M) := by
  rw [e46_0]
  by_cases h0 : v0 < v1
  · simp [h0, e46_14, e46_15, zfit_0, zb]
  · by_cases h1 : v2 < v0
    · simp [h0, h1, e46_14, e46_15, zfit_0, zb]
    · simp [h0, h1, e46_15, zfit_1, zb]
theorem s59 (L : Nat) (v0 v1 : Int32) (M : zM) : zden (L + 1) 59 0 [some (.int v0), some (.int v1)] [] M = some (some (.int (zcut v0 v1)), M) := by
  rw [e59_0]
  by_cases h0 : 0 < v1
  · rw [if_pos h0, if_neg (by intro h; rw [h] at h0; exact absurd h0 (by decide)), e59_15, zcut, if_pos h0]
  · rw [if_neg h0, e59_15, zcut, if_neg h0]
theorem s13 (L : Nat) (a b : Int32) (M : zM) : zden (L + 1) 13 0 [some (.int a), some (.int b)] [] M = some (some (.int (if a < b then b else a)), M) := by
  rw [e13_0]
  by_cases h : a < b
  · simp [h, e13_10]
  · simp [h, e13_10]
theorem s38 (L : Nat) (a b : Int32) (M : zM) : zden (L + 1) 38 0 [some (.int a), some (.int b)] [] M = some (some (.int (if b < a then b else a)), M) := by
  rw [e38_0]
  by_cases h : b < a
  · simp [h, e38_10]
  · simp [h, e38_10]
