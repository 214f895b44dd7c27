/-- n places of row a from i on, laid into row b from j on -/
def zcp2 (M : zM) (a i b j n : Nat) : zM := fun x y => if x = b ∧ j ≤ y ∧ y < j + n then M a (i + (y - j)) else M x y
def zfl (M : zM) (a n : Nat) (v : Int32) : zM := fun x y => if x = a ∧ y < n then v else M x y
theorem zcp2_0 (M : zM) (a i b j : Nat) : zcp2 M a i b j 0 = M := by
  funext x y
  unfold zcp2
  rw [if_neg (by omega)]
theorem zcp2_s (M : zM) {a i b j n : Nat} (h : a ≠ b) : zput (zcp2 M a i b j n) b (j + n) (M a (i + n)) = zcp2 M a i b j (n + 1) := by
  funext x y
  unfold zput zcp2
  by_cases h1 : x = b ∧ y = j + n
  · obtain ⟨rfl, rfl⟩ := h1
    rw [if_pos ⟨rfl, rfl⟩, if_pos ⟨rfl, by omega, by omega⟩]
    congr 1
    omega
  · rw [if_neg h1]
    by_cases h2 : x = b ∧ j ≤ y ∧ y < j + n
    · rw [if_pos h2, if_pos ⟨h2.1, h2.2.1, by omega⟩]
    · rw [if_neg h2, if_neg]
      rintro ⟨q1, q2, q3⟩
      by_cases q4 : y = j + n
      · exact h1 ⟨q1, q4⟩
      · exact h2 ⟨q1, q2, by omega⟩
theorem zcp2_a (M : zM) {a i b j n k : Nat} (h : a ≠ b) : zcp2 M a i b j n a k = M a k := by
  unfold zcp2
  rw [if_neg (fun q => h q.1)]
theorem zcp2_row (M : zM) {a i b j n k : Nat} (h : k ≠ b) : zcp2 M a i b j n k = M k := by
  funext y
  unfold zcp2
  rw [if_neg (fun q => h q.1)]
theorem zcp2_in (M : zM) {a i b j n y : Nat} (h1 : j ≤ y) (h2 : y < j + n) : zcp2 M a i b j n b y = M a (i + (y - j)) := by
  unfold zcp2
  rw [if_pos ⟨rfl, h1, h2⟩]
theorem zcp2_out (M : zM) {a i b j n x y : Nat} (h : ¬ (x = b ∧ j ≤ y ∧ y < j + n)) : zcp2 M a i b j n x y = M x y := by
  unfold zcp2
  rw [if_neg h]
theorem zfl_0 (M : zM) (a : Nat) (v : Int32) : zfl M a 0 v = M := by
  funext x y
  unfold zfl
  rw [if_neg (by omega)]
theorem zfl_s (M : zM) (a n : Nat) (v : Int32) : zput (zfl M a n v) a n v = zfl M a (n + 1) v := by
  funext x y
  unfold zput zfl
  by_cases h1 : x = a ∧ y = n
  · obtain ⟨rfl, rfl⟩ := h1
    rw [if_pos ⟨rfl, rfl⟩, if_pos ⟨rfl, by omega⟩]
  · rw [if_neg h1]
    by_cases h2 : x = a ∧ y < n
    · rw [if_pos h2, if_pos ⟨h2.1, by omega⟩]
    · rw [if_neg h2, if_neg]
      rintro ⟨q1, q2⟩
      by_cases q4 : y = n
      · exact h1 ⟨q1, q4⟩
      · exact h2 ⟨q1, by omega⟩
theorem zfl_row (M : zM) {a n k : Nat} {v : Int32} (h : k ≠ a) : zfl M a n v k = M k := by
  funext y
  unfold zfl
  rw [if_neg (fun q => h q.1)]
theorem zfl_in (M : zM) {a n y : Nat} {v : Int32} (h : y < n) : zfl M a n v a y = v := by
  unfold zfl
  rw [if_pos ⟨rfl, h⟩]
theorem zlt_6 {k : Nat} (h : k < 6) : nI k < 6 := nI_lt (b := 6) h (by omega)
theorem zlt_8 {k : Nat} (h : k < 8) : nI k < 8 := nI_lt (b := 8) h (by omega)
theorem zlt_12 {k : Nat} (h : k < 12) : nI k < 12 := nI_lt (b := 12) h (by omega)
theorem zlt_24 {k : Nat} (h : k < 24) : nI k < 24 := nI_lt (b := 24) h (by omega)
theorem zlt_49 {k : Nat} (h : k < 49) : nI k < 49 := nI_lt (b := 49) h (by omega)
theorem zlt_100 {k : Nat} (h : k < 100) : nI k < 100 := nI_lt (b := 100) h (by omega)
theorem zlt_24100 {k : Nat} (h : k < 24100) : nI k < 24100 := nI_lt (b := 24100) h (by omega)
theorem s31_40_41_l (L : Nat) (M : zM) : ∀ d k, d + k = 6 → zden (L + 1) 31 2 [some (.ref 40), some (.ref 41), some (.int (nI k))] [] (zcp2 M 40 0 41 0 k) = some (none, zcp2 M 40 0 41 0 6) := by
  intro d
  induction d with
  | zero =>
    intro k hk
    have : k = 6 := by omega
    subst this
    rw [e31_40_41_2]
    rw [if_neg (by decide), e31_40_41_26]
  | succ d ih =>
    intro k hk
    rw [e31_40_41_2, if_pos (zlt_6 (by omega)), if_pos (zlt_6 (by omega)), if_pos ((zinb_nI (by omega)).mpr (by omega)), if_pos ((zinb_nI (by omega)).mpr (by omega)), nI_clamp (by omega), zcp2_a M (by decide), nI_1]
    have hs := zcp2_s M (a := 40) (i := 0) (b := 41) (j := 0) (n := k) (by decide)
    rw [Nat.zero_add] at hs
    rw [hs]
    exact ih (k + 1) (by omega)
theorem s31_40_41 (L : Nat) (M : zM) : zden (L + 1) 31 0 [some (.ref 40), some (.ref 41), none] [] M = some (none, zcp2 M 40 0 41 0 6) := by
  rw [e31_40_41_0]
  have := s31_40_41_l L M 6 0 (by omega)
  rw [zcp2_0] at this
  exact this
theorem s31_40_42_l (L : Nat) (M : zM) : ∀ d k, d + k = 6 → zden (L + 1) 31 2 [some (.ref 40), some (.ref 42), some (.int (nI k))] [] (zcp2 M 40 0 42 0 k) = some (none, zcp2 M 40 0 42 0 6) := by
  intro d
  induction d with
  | zero =>
    intro k hk
    have : k = 6 := by omega
    subst this
    rw [e31_40_42_2]
    rw [if_neg (by decide), e31_40_42_26]
  | succ d ih =>
    intro k hk
    rw [e31_40_42_2, if_pos (zlt_6 (by omega)), if_pos (zlt_8 (by omega)), if_pos ((zinb_nI (by omega)).mpr (by omega)), if_pos ((zinb_nI (by omega)).mpr (by omega)), nI_clamp (by omega), zcp2_a M (by decide), nI_1]
    have hs := zcp2_s M (a := 40) (i := 0) (b := 42) (j := 0) (n := k) (by decide)
    rw [Nat.zero_add] at hs
    rw [hs]
    exact ih (k + 1) (by omega)
theorem s31_40_42 (L : Nat) (M : zM) : zden (L + 1) 31 0 [some (.ref 40), some (.ref 42), none] [] M = some (none, zcp2 M 40 0 42 0 6) := by
  rw [e31_40_42_0]
  have := s31_40_42_l L M 6 0 (by omega)
  rw [zcp2_0] at this
  exact this
theorem s31_42_40_l (L : Nat) (M : zM) : ∀ d k, d + k = 6 → zden (L + 1) 31 2 [some (.ref 42), some (.ref 40), some (.int (nI k))] [] (zcp2 M 42 0 40 0 k) = some (none, zcp2 M 42 0 40 0 6) := by
  intro d
  induction d with
  | zero =>
    intro k hk
    have : k = 6 := by omega
    subst this
    rw [e31_42_40_2]
    rw [if_pos (by decide), if_neg (by decide), e31_42_40_26]
  | succ d ih =>
    intro k hk
    rw [e31_42_40_2, if_pos (zlt_8 (by omega)), if_pos (zlt_6 (by omega)), if_pos ((zinb_nI (by omega)).mpr (by omega)), if_pos ((zinb_nI (by omega)).mpr (by omega)), nI_clamp (by omega), zcp2_a M (by decide), nI_1]
    have hs := zcp2_s M (a := 42) (i := 0) (b := 40) (j := 0) (n := k) (by decide)
    rw [Nat.zero_add] at hs
    rw [hs]
    exact ih (k + 1) (by omega)
theorem s31_42_40 (L : Nat) (M : zM) : zden (L + 1) 31 0 [some (.ref 42), some (.ref 40), none] [] M = some (none, zcp2 M 42 0 40 0 6) := by
  rw [e31_42_40_0]
  have := s31_42_40_l L M 6 0 (by omega)
  rw [zcp2_0] at this
  exact this
theorem s177_48_52_57_l (L : Nat) {i j : Nat} (hi : i + 6 ≤ 6) (hj : j + 6 ≤ 6) (o : Option Value) (M : zM) : ∀ d k, d + k = 6 → zden (L + 1) 177 3 [o, some (.ref 52), some (.int (nI i)), some (.ref 57), some (.int (nI j)), some (.int (nI k))] [] (zcp2 M 52 i 57 j k) = some (none, zcp2 M 52 i 57 j 6) := by
  intro d
  induction d with
  | zero =>
    intro k hk
    have : k = 6 := by omega
    subst this
    rw [e177_48_52_57_3, if_neg (by decide)]
  | succ d ih =>
    intro k hk
    rw [e177_48_52_57_3, if_pos (show nI k < 6 from nI_lt (b := 6) (by omega) (by omega)), nI_add, nI_add, if_pos ((zinb_nI (by omega)).mpr (by omega)), if_pos ((zinb_nI (by omega)).mpr (by omega)), nI_clamp (by omega), nI_clamp (by omega), zcp2_a M (by decide), zcp2_s M (by decide), nI_1]
    exact ih (k + 1) (by omega)
theorem s177_48_52_57 (L : Nat) {i j : Nat} (hi : i + 6 ≤ 6) (hj : j + 6 ≤ 6) (M : zM) : zden (L + 1) 177 0 [some (.ref 48), some (.ref 52), some (.int (nI i)), some (.ref 57), some (.int (nI j)), none] [] M = some (none, zcp2 M 52 i 57 j 6) := by
  rw [e177_48_52_57_0]
  have := s177_48_52_57_l L hi hj (some (.ref 48)) M 6 0 (by omega)
  rw [zcp2_0] at this
  exact this
theorem s177_48_53_52_l (L : Nat) {i j : Nat} (hi : i + 6 ≤ 48) (hj : j + 6 ≤ 6) (o : Option Value) (M : zM) : ∀ d k, d + k = 6 → zden (L + 1) 177 3 [o, some (.ref 53), some (.int (nI i)), some (.ref 52), some (.int (nI j)), some (.int (nI k))] [] (zcp2 M 53 i 52 j k) = some (none, zcp2 M 53 i 52 j 6) := by
  intro d
  induction d with
  | zero =>
    intro k hk
    have : k = 6 := by omega
    subst this
    rw [e177_48_53_52_3, if_neg (by decide)]
  | succ d ih =>
    intro k hk
    rw [e177_48_53_52_3, if_pos (show nI k < 6 from nI_lt (b := 6) (by omega) (by omega)), nI_add, nI_add, if_pos ((zinb_nI (by omega)).mpr (by omega)), if_pos ((zinb_nI (by omega)).mpr (by omega)), nI_clamp (by omega), nI_clamp (by omega), zcp2_a M (by decide), zcp2_s M (by decide), nI_1]
    exact ih (k + 1) (by omega)
theorem s177_48_53_52 (L : Nat) {i j : Nat} (hi : i + 6 ≤ 48) (hj : j + 6 ≤ 6) (M : zM) : zden (L + 1) 177 0 [some (.ref 48), some (.ref 53), some (.int (nI i)), some (.ref 52), some (.int (nI j)), none] [] M = some (none, zcp2 M 53 i 52 j 6) := by
  rw [e177_48_53_52_0]
  have := s177_48_53_52_l L hi hj (some (.ref 48)) M 6 0 (by omega)
  rw [zcp2_0] at this
  exact this
theorem s177_48_52_55_l (L : Nat) {i j : Nat} (hi : i + 6 ≤ 6) (hj : j + 6 ≤ 16) (o : Option Value) (M : zM) : ∀ d k, d + k = 6 → zden (L + 1) 177 3 [o, some (.ref 52), some (.int (nI i)), some (.ref 55), some (.int (nI j)), some (.int (nI k))] [] (zcp2 M 52 i 55 j k) = some (none, zcp2 M 52 i 55 j 6) := by
  intro d
  induction d with
  | zero =>
    intro k hk
    have : k = 6 := by omega
    subst this
    rw [e177_48_52_55_3, if_neg (by decide)]
  | succ d ih =>
    intro k hk
    rw [e177_48_52_55_3, if_pos (show nI k < 6 from nI_lt (b := 6) (by omega) (by omega)), nI_add, nI_add, if_pos ((zinb_nI (by omega)).mpr (by omega)), if_pos ((zinb_nI (by omega)).mpr (by omega)), nI_clamp (by omega), nI_clamp (by omega), zcp2_a M (by decide), zcp2_s M (by decide), nI_1]
    exact ih (k + 1) (by omega)
theorem s177_48_52_55 (L : Nat) {i j : Nat} (hi : i + 6 ≤ 6) (hj : j + 6 ≤ 16) (M : zM) : zden (L + 1) 177 0 [some (.ref 48), some (.ref 52), some (.int (nI i)), some (.ref 55), some (.int (nI j)), none] [] M = some (none, zcp2 M 52 i 55 j 6) := by
  rw [e177_48_52_55_0]
  have := s177_48_52_55_l L hi hj (some (.ref 48)) M 6 0 (by omega)
  rw [zcp2_0] at this
  exact this
theorem s177_48_55_52_l (L : Nat) {i j : Nat} (hi : i + 6 ≤ 16) (hj : j + 6 ≤ 6) (o : Option Value) (M : zM) : ∀ d k, d + k = 6 → zden (L + 1) 177 3 [o, some (.ref 55), some (.int (nI i)), some (.ref 52), some (.int (nI j)), some (.int (nI k))] [] (zcp2 M 55 i 52 j k) = some (none, zcp2 M 55 i 52 j 6) := by
  intro d
  induction d with
  | zero =>
    intro k hk
    have : k = 6 := by omega
    subst this
    rw [e177_48_55_52_3, if_neg (by decide)]
  | succ d ih =>
    intro k hk
    rw [e177_48_55_52_3, if_pos (show nI k < 6 from nI_lt (b := 6) (by omega) (by omega)), nI_add, nI_add, if_pos ((zinb_nI (by omega)).mpr (by omega)), if_pos ((zinb_nI (by omega)).mpr (by omega)), nI_clamp (by omega), nI_clamp (by omega), zcp2_a M (by decide), zcp2_s M (by decide), nI_1]
    exact ih (k + 1) (by omega)
theorem s177_48_55_52 (L : Nat) {i j : Nat} (hi : i + 6 ≤ 16) (hj : j + 6 ≤ 6) (M : zM) : zden (L + 1) 177 0 [some (.ref 48), some (.ref 55), some (.int (nI i)), some (.ref 52), some (.int (nI j)), none] [] M = some (none, zcp2 M 55 i 52 j 6) := by
  rw [e177_48_55_52_0]
  have := s177_48_55_52_l L hi hj (some (.ref 48)) M 6 0 (by omega)
  rw [zcp2_0] at this
  exact this
theorem s19E_7_l (v : Int32) (M : zM) : ∀ d k, d + k = 24 → zden 0 19 5 [some (.ref 7), some (.int v), some (.int (nI k)), some (.int 24)] [] (zfl M 7 k v) = some (none, zfl M 7 24 v) := by
  intro d
  induction d with
  | zero =>
    intro k hk
    have : k = 24 := by omega
    subst this
    rw [e19E_7_5, if_neg (by decide)]
  | succ d ih =>
    intro k hk
    rw [e19E_7_5, if_pos (zlt_24 (by omega)), if_pos ((zinb_nI (by omega)).mpr (by omega)), nI_clamp (by omega), zfl_s, nI_1]
    exact ih (k + 1) (by omega)
theorem s19E_7 (v : Int32) (M : zM) : zden 0 19 0 [some (.ref 7), some (.int v), none, none] [] M = some (none, zfl M 7 24 v) := by
  rw [e19E_7_0]
  have := s19E_7_l v M 24 0 (by omega)
  rw [zfl_0] at this
  exact this
theorem s31E_63_4_l (M : zM) : ∀ d k, d + k = 12 → zden 0 31 2 [some (.ref 63), some (.ref 4), some (.int (nI k))] [] (zcp2 M 63 0 4 0 k) = some (none, zcp2 M 63 0 4 0 12) := by
  intro d
  induction d with
  | zero =>
    intro k hk
    have : k = 12 := by omega
    subst this
    rw [e31E_63_4_2]
    rw [if_neg (by decide), e31E_63_4_26]
  | succ d ih =>
    intro k hk
    rw [e31E_63_4_2, if_pos (zlt_12 (by omega)), if_pos (zlt_12 (by omega)), if_pos ((zinb_nI (by omega)).mpr (by omega)), if_pos ((zinb_nI (by omega)).mpr (by omega)), nI_clamp (by omega), zcp2_a M (by decide), nI_1]
    have hs := zcp2_s M (a := 63) (i := 0) (b := 4) (j := 0) (n := k) (by decide)
    rw [Nat.zero_add] at hs
    rw [hs]
    exact ih (k + 1) (by omega)
theorem s31E_63_4 (M : zM) : zden 0 31 0 [some (.ref 63), some (.ref 4), none] [] M = some (none, zcp2 M 63 0 4 0 12) := by
  rw [e31E_63_4_0]
  have := s31E_63_4_l M 12 0 (by omega)
  rw [zcp2_0] at this
  exact this
theorem s19E_40_l (v : Int32) (M : zM) : ∀ d k, d + k = 6 → zden 0 19 5 [some (.ref 40), some (.int v), some (.int (nI k)), some (.int 6)] [] (zfl M 40 k v) = some (none, zfl M 40 6 v) := by
  intro d
  induction d with
  | zero =>
    intro k hk
    have : k = 6 := by omega
    subst this
    rw [e19E_40_5, if_neg (by decide)]
  | succ d ih =>
    intro k hk
    rw [e19E_40_5, if_pos (zlt_6 (by omega)), if_pos ((zinb_nI (by omega)).mpr (by omega)), nI_clamp (by omega), zfl_s, nI_1]
    exact ih (k + 1) (by omega)
theorem s19E_40 (v : Int32) (M : zM) : zden 0 19 0 [some (.ref 40), some (.int v), none, none] [] M = some (none, zfl M 40 6 v) := by
  rw [e19E_40_0]
  have := s19E_40_l v M 6 0 (by omega)
  rw [zfl_0] at this
  exact this
theorem s19_40_l (L : Nat) (v : Int32) (M : zM) : ∀ d k, d + k = 6 → zden (L + 1) 19 5 [some (.ref 40), some (.int v), some (.int (nI k)), some (.int 6)] [] (zfl M 40 k v) = some (none, zfl M 40 6 v) := by
  intro d
  induction d with
  | zero =>
    intro k hk
    have : k = 6 := by omega
    subst this
    rw [e19_40_5, if_neg (by decide)]
  | succ d ih =>
    intro k hk
    rw [e19_40_5, if_pos (zlt_6 (by omega)), if_pos ((zinb_nI (by omega)).mpr (by omega)), nI_clamp (by omega), zfl_s, nI_1]
    exact ih (k + 1) (by omega)
theorem s19_40 (L : Nat) (v : Int32) (M : zM) : zden (L + 1) 19 0 [some (.ref 40), some (.int v), none, none] [] M = some (none, zfl M 40 6 v) := by
  rw [e19_40_0]
  have := s19_40_l L v M 6 0 (by omega)
  rw [zfl_0] at this
  exact this
theorem s31_41_40_l (L : Nat) (M : zM) : ∀ d k, d + k = 6 → zden (L + 1) 31 2 [some (.ref 41), some (.ref 40), some (.int (nI k))] [] (zcp2 M 41 0 40 0 k) = some (none, zcp2 M 41 0 40 0 6) := by
  intro d
  induction d with
  | zero =>
    intro k hk
    have : k = 6 := by omega
    subst this
    rw [e31_41_40_2]
    rw [if_neg (by decide), e31_41_40_26]
  | succ d ih =>
    intro k hk
    rw [e31_41_40_2, if_pos (zlt_6 (by omega)), if_pos (zlt_6 (by omega)), if_pos ((zinb_nI (by omega)).mpr (by omega)), if_pos ((zinb_nI (by omega)).mpr (by omega)), nI_clamp (by omega), zcp2_a M (by decide), nI_1]
    have hs := zcp2_s M (a := 41) (i := 0) (b := 40) (j := 0) (n := k) (by decide)
    rw [Nat.zero_add] at hs
    rw [hs]
    exact ih (k + 1) (by omega)
theorem s31_41_40 (L : Nat) (M : zM) : zden (L + 1) 31 0 [some (.ref 41), some (.ref 40), none] [] M = some (none, zcp2 M 41 0 40 0 6) := by
  rw [e31_41_40_0]
  have := s31_41_40_l L M 6 0 (by omega)
  rw [zcp2_0] at this
  exact this
theorem s19_30_l (L : Nat) (v : Int32) (M : zM) : ∀ d k, d + k = 100 → zden (L + 1) 19 5 [some (.ref 30), some (.int v), some (.int (nI k)), some (.int 100)] [] (zfl M 30 k v) = some (none, zfl M 30 100 v) := by
  intro d
  induction d with
  | zero =>
    intro k hk
    have : k = 100 := by omega
    subst this
    rw [e19_30_5, if_neg (by decide)]
  | succ d ih =>
    intro k hk
    rw [e19_30_5, if_pos (zlt_100 (by omega)), if_pos ((zinb_nI (by omega)).mpr (by omega)), nI_clamp (by omega), zfl_s, nI_1]
    exact ih (k + 1) (by omega)
theorem s19_30 (L : Nat) (v : Int32) (M : zM) : zden (L + 1) 19 0 [some (.ref 30), some (.int v), none, none] [] M = some (none, zfl M 30 100 v) := by
  rw [e19_30_0]
  have := s19_30_l L v M 100 0 (by omega)
  rw [zfl_0] at this
  exact this
theorem s31_31_30_l (L : Nat) (M : zM) : ∀ d k, d + k = 100 → zden (L + 1) 31 2 [some (.ref 31), some (.ref 30), some (.int (nI k))] [] (zcp2 M 31 0 30 0 k) = some (none, zcp2 M 31 0 30 0 100) := by
  intro d
  induction d with
  | zero =>
    intro k hk
    have : k = 100 := by omega
    subst this
    rw [e31_31_30_2]
    rw [if_neg (by decide), e31_31_30_26]
  | succ d ih =>
    intro k hk
    rw [e31_31_30_2, if_pos (zlt_100 (by omega)), if_pos (zlt_100 (by omega)), if_pos ((zinb_nI (by omega)).mpr (by omega)), if_pos ((zinb_nI (by omega)).mpr (by omega)), nI_clamp (by omega), zcp2_a M (by decide), nI_1]
    have hs := zcp2_s M (a := 31) (i := 0) (b := 30) (j := 0) (n := k) (by decide)
    rw [Nat.zero_add] at hs
    rw [hs]
    exact ih (k + 1) (by omega)
theorem s31_31_30 (L : Nat) (M : zM) : zden (L + 1) 31 0 [some (.ref 31), some (.ref 30), none] [] M = some (none, zcp2 M 31 0 30 0 100) := by
  rw [e31_31_30_0]
  have := s31_31_30_l L M 100 0 (by omega)
  rw [zcp2_0] at this
  exact this
theorem s19_34_l (L : Nat) (v : Int32) (M : zM) : ∀ d k, d + k = 24100 → zden (L + 1) 19 5 [some (.ref 34), some (.int v), some (.int (nI k)), some (.int 24100)] [] (zfl M 34 k v) = some (none, zfl M 34 24100 v) := by
  intro d
  induction d with
  | zero =>
    intro k hk
    have : k = 24100 := by omega
    subst this
    rw [e19_34_5, if_neg (by decide)]
  | succ d ih =>
    intro k hk
    rw [e19_34_5, if_pos (zlt_24100 (by omega)), if_pos ((zinb_nI (by omega)).mpr (by omega)), nI_clamp (by omega), zfl_s, nI_1]
    exact ih (k + 1) (by omega)
theorem s19_34 (L : Nat) (v : Int32) (M : zM) : zden (L + 1) 19 0 [some (.ref 34), some (.int v), none, none] [] M = some (none, zfl M 34 24100 v) := by
  rw [e19_34_0]
  have := s19_34_l L v M 24100 0 (by omega)
  rw [zfl_0] at this
  exact this
theorem s19_39_l (L : Nat) (v : Int32) (M : zM) : ∀ d k, d + k = 49 → zden (L + 1) 19 5 [some (.ref 39), some (.int v), some (.int (nI k)), some (.int 49)] [] (zfl M 39 k v) = some (none, zfl M 39 49 v) := by
  intro d
  induction d with
  | zero =>
    intro k hk
    have : k = 49 := by omega
    subst this
    rw [e19_39_5, if_neg (by decide)]
  | succ d ih =>
    intro k hk
    rw [e19_39_5, if_pos (zlt_49 (by omega)), if_pos ((zinb_nI (by omega)).mpr (by omega)), nI_clamp (by omega), zfl_s, nI_1]
    exact ih (k + 1) (by omega)
theorem s19_39 (L : Nat) (v : Int32) (M : zM) : zden (L + 1) 19 0 [some (.ref 39), some (.int v), none, none] [] M = some (none, zfl M 39 49 v) := by
  rw [e19_39_0]
  have := s19_39_l L v M 49 0 (by omega)
  rw [zfl_0] at this
  exact this
theorem s177_48_52_53_l (L : Nat) {i j : Nat} (hi : i + 6 ≤ 6) (hj : j + 6 ≤ 48) (o : Option Value) (M : zM) : ∀ d k, d + k = 6 → zden (L + 1) 177 3 [o, some (.ref 52), some (.int (nI i)), some (.ref 53), some (.int (nI j)), some (.int (nI k))] [] (zcp2 M 52 i 53 j k) = some (none, zcp2 M 52 i 53 j 6) := by
  intro d
  induction d with
  | zero =>
    intro k hk
    have : k = 6 := by omega
    subst this
    rw [e177_48_52_53_3, if_neg (by decide)]
  | succ d ih =>
    intro k hk
    rw [e177_48_52_53_3, if_pos (show nI k < 6 from nI_lt (b := 6) (by omega) (by omega)), nI_add, nI_add, if_pos ((zinb_nI (by omega)).mpr (by omega)), if_pos ((zinb_nI (by omega)).mpr (by omega)), nI_clamp (by omega), nI_clamp (by omega), zcp2_a M (by decide), zcp2_s M (by decide), nI_1]
    exact ih (k + 1) (by omega)
theorem s177_48_52_53 (L : Nat) {i j : Nat} (hi : i + 6 ≤ 6) (hj : j + 6 ≤ 48) (M : zM) : zden (L + 1) 177 0 [some (.ref 48), some (.ref 52), some (.int (nI i)), some (.ref 53), some (.int (nI j)), none] [] M = some (none, zcp2 M 52 i 53 j 6) := by
  rw [e177_48_52_53_0]
  have := s177_48_52_53_l L hi hj (some (.ref 48)) M 6 0 (by omega)
  rw [zcp2_0] at this
  exact this
theorem s177_48_57_52_l (L : Nat) {i j : Nat} (hi : i + 6 ≤ 6) (hj : j + 6 ≤ 6) (o : Option Value) (M : zM) : ∀ d k, d + k = 6 → zden (L + 1) 177 3 [o, some (.ref 57), some (.int (nI i)), some (.ref 52), some (.int (nI j)), some (.int (nI k))] [] (zcp2 M 57 i 52 j k) = some (none, zcp2 M 57 i 52 j 6) := by
  intro d
  induction d with
  | zero =>
    intro k hk
    have : k = 6 := by omega
    subst this
    rw [e177_48_57_52_3, if_neg (by decide)]
  | succ d ih =>
    intro k hk
    rw [e177_48_57_52_3, if_pos (show nI k < 6 from nI_lt (b := 6) (by omega) (by omega)), nI_add, nI_add, if_pos ((zinb_nI (by omega)).mpr (by omega)), if_pos ((zinb_nI (by omega)).mpr (by omega)), nI_clamp (by omega), nI_clamp (by omega), zcp2_a M (by decide), zcp2_s M (by decide), nI_1]
    exact ih (k + 1) (by omega)
theorem s177_48_57_52 (L : Nat) {i j : Nat} (hi : i + 6 ≤ 6) (hj : j + 6 ≤ 6) (M : zM) : zden (L + 1) 177 0 [some (.ref 48), some (.ref 57), some (.int (nI i)), some (.ref 52), some (.int (nI j)), none] [] M = some (none, zcp2 M 57 i 52 j 6) := by
  rw [e177_48_57_52_0]
  have := s177_48_57_52_l L hi hj (some (.ref 48)) M 6 0 (by omega)
  rw [zcp2_0] at this
  exact this
theorem s19_18_l (L : Nat) (v : Int32) (M : zM) : ∀ d k, d + k = 24 → zden (L + 1) 19 5 [some (.ref 18), some (.int v), some (.int (nI k)), some (.int 24)] [] (zfl M 18 k v) = some (none, zfl M 18 24 v) := by
  intro d
  induction d with
  | zero =>
    intro k hk
    have : k = 24 := by omega
    subst this
    rw [e19_18_5, if_neg (by decide)]
  | succ d ih =>
    intro k hk
    rw [e19_18_5, if_pos (zlt_24 (by omega)), if_pos ((zinb_nI (by omega)).mpr (by omega)), nI_clamp (by omega), zfl_s, nI_1]
    exact ih (k + 1) (by omega)
theorem s19_18 (L : Nat) (v : Int32) (M : zM) : zden (L + 1) 19 0 [some (.ref 18), some (.int v), none, none] [] M = some (none, zfl M 18 24 v) := by
  rw [e19_18_0]
  have := s19_18_l L v M 24 0 (by omega)
  rw [zfl_0] at this
  exact this
theorem s31_63_15_l (L : Nat) (M : zM) : ∀ d k, d + k = 12 → zden (L + 1) 31 2 [some (.ref 63), some (.ref 15), some (.int (nI k))] [] (zcp2 M 63 0 15 0 k) = some (none, zcp2 M 63 0 15 0 12) := by
  intro d
  induction d with
  | zero =>
    intro k hk
    have : k = 12 := by omega
    subst this
    rw [e31_63_15_2]
    rw [if_neg (by decide), e31_63_15_26]
  | succ d ih =>
    intro k hk
    rw [e31_63_15_2, if_pos (zlt_12 (by omega)), if_pos (zlt_12 (by omega)), if_pos ((zinb_nI (by omega)).mpr (by omega)), if_pos ((zinb_nI (by omega)).mpr (by omega)), nI_clamp (by omega), zcp2_a M (by decide), nI_1]
    have hs := zcp2_s M (a := 63) (i := 0) (b := 15) (j := 0) (n := k) (by decide)
    rw [Nat.zero_add] at hs
    rw [hs]
    exact ih (k + 1) (by omega)
theorem s31_63_15 (L : Nat) (M : zM) : zden (L + 1) 31 0 [some (.ref 63), some (.ref 15), none] [] M = some (none, zcp2 M 63 0 15 0 12) := by
  rw [e31_63_15_0]
  have := s31_63_15_l L M 12 0 (by omega)
  rw [zcp2_0] at this
  exact this
theorem s19_7_l (L : Nat) (v : Int32) (M : zM) : ∀ d k, d + k = 24 → zden (L + 1) 19 5 [some (.ref 7), some (.int v), some (.int (nI k)), some (.int 24)] [] (zfl M 7 k v) = some (none, zfl M 7 24 v) := by
  intro d
  induction d with
  | zero =>
    intro k hk
    have : k = 24 := by omega
    subst this
    rw [e19_7_5, if_neg (by decide)]
  | succ d ih =>
    intro k hk
    rw [e19_7_5, if_pos (zlt_24 (by omega)), if_pos ((zinb_nI (by omega)).mpr (by omega)), nI_clamp (by omega), zfl_s, nI_1]
    exact ih (k + 1) (by omega)
theorem s19_7 (L : Nat) (v : Int32) (M : zM) : zden (L + 1) 19 0 [some (.ref 7), some (.int v), none, none] [] M = some (none, zfl M 7 24 v) := by
  rw [e19_7_0]
  have := s19_7_l L v M 24 0 (by omega)
  rw [zfl_0] at this
  exact this
theorem s31_63_4_l (L : Nat) (M : zM) : ∀ d k, d + k = 12 → zden (L + 1) 31 2 [some (.ref 63), some (.ref 4), some (.int (nI k))] [] (zcp2 M 63 0 4 0 k) = some (none, zcp2 M 63 0 4 0 12) := by
  intro d
  induction d with
  | zero =>
    intro k hk
    have : k = 12 := by omega
    subst this
    rw [e31_63_4_2]
    rw [if_neg (by decide), e31_63_4_26]
  | succ d ih =>
    intro k hk
    rw [e31_63_4_2, if_pos (zlt_12 (by omega)), if_pos (zlt_12 (by omega)), if_pos ((zinb_nI (by omega)).mpr (by omega)), if_pos ((zinb_nI (by omega)).mpr (by omega)), nI_clamp (by omega), zcp2_a M (by decide), nI_1]
    have hs := zcp2_s M (a := 63) (i := 0) (b := 4) (j := 0) (n := k) (by decide)
    rw [Nat.zero_add] at hs
    rw [hs]
    exact ih (k + 1) (by omega)
theorem s31_63_4 (L : Nat) (M : zM) : zden (L + 1) 31 0 [some (.ref 63), some (.ref 4), none] [] M = some (none, zcp2 M 63 0 4 0 12) := by
  rw [e31_63_4_0]
  have := s31_63_4_l L M 12 0 (by omega)
  rw [zcp2_0] at this
  exact this
