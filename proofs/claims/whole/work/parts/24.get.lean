theorem s46r (L : Nat) (x a b : Int32) (M : zM) : zden (L + 1) 46 0 [some (.int x), some (.int a), some (.int b)] [] M = some (some (.int (zb (zrng x a b))), M) := s46 L x a b M
theorem s143r (L : Nat) (x a b : Int32) {A B : Int64} (hA : a.toInt64 = A) (hB : b.toInt64 = B) (M : zM) : zden (L + 1) 143 0 [some (.long x.toInt64), none, some (.long A), none, some (.long B), none] [] M = some (some (.int (zb (zrng x a b))), M) := s143i L x a b hA hB M
theorem zrng_cnt {x : Int32} {n : Nat} (hn : n < 2 ^ 31) (h : zrng x 0 (nI n - 1) = true) : ∃ j : Nat, j < n ∧ x = nI j := by
  cases n with
  | zero =>
    simp only [zrng, Bool.and_eq_true, Bool.not_eq_true', decide_eq_false_iff_not] at h
    obtain ⟨h1, h2⟩ := h
    have e : (nI 0 - 1 : Int32).toInt = -1 := by decide
    rw [zi_lt] at h1 h2
    rw [e] at h2
    have : (0 : Int32).toInt = 0 := by decide
    omega
  | succ n =>
    rw [nI_pred] at h
    obtain ⟨j, hj, rfl⟩ := zrng_nI (b := n) (by omega) h
    exact ⟨j, by omega, rfl⟩
theorem zrng_of {j b : Nat} (h : j ≤ b) (hb : b < 2 ^ 31) : zrng (nI j) 0 (nI b) = true := by
  simp only [zrng, Bool.and_eq_true, Bool.not_eq_true', decide_eq_false_iff_not]
  exact ⟨nI_pos (by omega), nI_nlt h hb⟩
theorem zbit_get : ∀ B : Fin 128, ∀ q : Fin 7, ((nI B.val >>> (nI q.val &&& 31)) &&& 1) = nI (B.val / 2 ^ q.val % 2) := by decide +kernel
theorem zbits_lt {f : Nat → Nat} : ∀ {n : Nat}, (∀ q, q < n → f q ≤ 1) → zbits f n < 2 ^ n
  | 0, _ => by simp [zbits]
  | n + 1, h => by
    have h1 := zbits_lt (n := n) (fun q hq => h q (by omega))
    have h2 := h n (by omega)
    unfold zbits
    have : f n * 2 ^ n ≤ 2 ^ n := by
      rcases Nat.le_one_iff_eq_zero_or_eq_one.mp h2 with e | e <;> rw [e] <;> omega
    rw [Nat.pow_succ]
    omega
theorem zbits_get {f : Nat → Nat} : ∀ {n : Nat}, (∀ q, q < n → f q ≤ 1) → ∀ q, q < n → zbits f n / 2 ^ q % 2 = f q
  | 0, _, q, hq => by omega
  | n + 1, h, q, hq => by
    have h1 := zbits_lt (n := n) (fun q hq => h q (by omega))
    have h2 := h n (by omega)
    unfold zbits
    by_cases e : q = n
    · subst e
      rw [Nat.add_mul_div_right _ _ (Nat.two_pow_pos q), Nat.div_eq_of_lt h1]
      omega
    · have hlt : q < n := by omega
      have ih := zbits_get (n := n) (fun q hq => h q (by omega)) q hlt
      obtain ⟨d, rfl⟩ : ∃ d, n = q + 1 + d := ⟨n - (q + 1), by omega⟩
      rw [show f (q + 1 + d) * 2 ^ (q + 1 + d) = (f (q + 1 + d) * 2 ^ d * 2) * 2 ^ q by rw [Nat.pow_add, Nat.pow_add, Nat.pow_one]; simp only [Nat.mul_assoc, Nat.mul_comm, Nat.mul_left_comm], Nat.add_mul_div_right _ _ (Nat.two_pow_pos q)]
      omega
theorem zbits_128 {t : Nat → Nat} (hb : zTb t) : zbits (fun q => t (79 + q)) (t 2) < 128 := by
  have h1 := zbits_lt (f := fun q => t (79 + q)) (n := t 2) (fun q hq => (hb.2.2.2.2.2.1 q hq).2)
  have h2 : t 2 ≤ 7 := hb.1.2.2.2.1
  have h3 : 2 ^ t 2 ≤ 2 ^ 7 := Nat.pow_le_pow_right (by omega) h2
  omega
theorem s18 (L : Nat) {B q : Nat} (hB : B < 128) (hq : q < 7) (M : zM) : zden (L + 1) 18 0 [some (.int (nI B)), some (.int (nI q))] [] M = some (some (.int (nI (B / 2 ^ q % 2))), M) := by
  rw [e18_0, zbit_get ⟨B, hB⟩ ⟨q, hq⟩]
  dsimp only
  have h2 : B / 2 ^ q % 2 < 2 := Nat.mod_lt _ (by omega)
  generalize B / 2 ^ q % 2 = w at h2 ⊢
  by_cases h : w = 1
  · subst h
    rw [if_pos (by decide), e18_14, if_pos zfit_1]
    rfl
  · have : w = 0 := by omega
    subst this
    rw [if_neg (by decide), e18_14, if_pos zfit_0]
    rfl
theorem s160 {L : Nat} (x : Int32) {M : zM} : zden (L + 1) 160 0 [some (.ref 48), some (.int x)] [] M = some (some (.int (zb (zrng x 0 (M 49 0 - 1)))), M) := by
  rw [e160_0, s143r L x 0 _ (by decide) rfl, zbI_some, if_pos (zfit_zb _)]
theorem s165 {L : Nat} (x : Int32) {M : zM} : zden (L + 1) 165 0 [some (.ref 48), some (.int x)] [] M = some (some (.int (zb (zrng x 0 (M 49 1 - 1)))), M) := by
  rw [e165_0, s143r L x 0 _ (by decide) rfl, zbI_some, if_pos (zfit_zb _)]
theorem s169 {L : Nat} (x : Int32) {M : zM} : zden (L + 1) 169 0 [some (.ref 48), some (.int x)] [] M = some (some (.int (zb (zrng x 0 (M 49 2 - 1)))), M) := by
  rw [e169_0, s143r L x 0 _ (by decide) rfl, zbI_some, if_pos (zfit_zb _)]
theorem zrng_cases (x a b : Int32) : zrng x a b = true ∨ zrng x a b = false := by cases zrng x a b <;> simp
theorem s0_0 (L : Nat) (M : zM) : zden (L + 1) 0 0 [some (.ref 1), some (.int 0)] [] M = some (some (.int (M 4 0)), M) := s0k L 0 (i := 0) (by omega) rfl M
theorem s0_1 (L : Nat) (M : zM) : zden (L + 1) 0 0 [some (.ref 1), some (.int 1)] [] M = some (some (.int (M 4 1)), M) := s0k L 1 (i := 1) (by omega) rfl M
theorem s0_2 (L : Nat) (M : zM) : zden (L + 1) 0 0 [some (.ref 1), some (.int 2)] [] M = some (some (.int (M 4 2)), M) := s0k L 2 (i := 2) (by omega) rfl M
theorem s0_3 (L : Nat) (M : zM) : zden (L + 1) 0 0 [some (.ref 1), some (.int 3)] [] M = some (some (.int (M 4 3)), M) := s0k L 3 (i := 3) (by omega) rfl M
theorem s0_4 (L : Nat) (M : zM) : zden (L + 1) 0 0 [some (.ref 1), some (.int 4)] [] M = some (some (.int (M 4 4)), M) := s0k L 4 (i := 4) (by omega) rfl M
theorem s0_5 (L : Nat) (M : zM) : zden (L + 1) 0 0 [some (.ref 1), some (.int 5)] [] M = some (some (.int (M 4 5)), M) := s0k L 5 (i := 5) (by omega) rfl M
theorem s0_6 (L : Nat) (M : zM) : zden (L + 1) 0 0 [some (.ref 1), some (.int 6)] [] M = some (some (.int (M 4 6)), M) := s0k L 6 (i := 6) (by omega) rfl M
theorem s0_7 (L : Nat) (M : zM) : zden (L + 1) 0 0 [some (.ref 1), some (.int 7)] [] M = some (some (.int (M 4 7)), M) := s0k L 7 (i := 7) (by omega) rfl M
theorem s0_8 (L : Nat) (M : zM) : zden (L + 1) 0 0 [some (.ref 1), some (.int 8)] [] M = some (some (.int (M 4 8)), M) := s0k L 8 (i := 8) (by omega) rfl M
theorem s0_9 (L : Nat) (M : zM) : zden (L + 1) 0 0 [some (.ref 1), some (.int 9)] [] M = some (some (.int (M 4 9)), M) := s0k L 9 (i := 9) (by omega) rfl M
theorem s0_10 (L : Nat) (M : zM) : zden (L + 1) 0 0 [some (.ref 1), some (.int 10)] [] M = some (some (.int (M 4 10)), M) := s0k L 10 (i := 10) (by omega) rfl M
theorem s0_11 (L : Nat) (M : zM) : zden (L + 1) 0 0 [some (.ref 1), some (.int 11)] [] M = some (some (.int (M 4 11)), M) := s0k L 11 (i := 11) (by omega) rfl M
section KG
variable {L : Nat} {ro M : zM}
theorem k_step (s w : Int32) (hR : zRel M) (hro : ∀ i, zNW ≤ i → M i = ro i) : zSame L ro 100 162 [some (.ref 0), some (.int s), some (.int w)] [some (.ref 48), some (.int s), some (.int w)] M := by
  obtain ⟨t, hb, hc, hm, -⟩ := id hR
  have e1 : M 1 2 = nI (t 0) := hc.1.1
  have e2 : M 49 0 = nI (t 0) := hm 0 (by omega)
  have ht := hb.1.2.1
  rcases zrng_cases s 0 (nI (t 0) - 1) with hs | hs
  · rcases zrng_cases w 0 1 with hw | hw
    · obtain ⟨j, hj, rfl⟩ := zrng_cnt (by omega) hs
      obtain ⟨d, hd, rfl⟩ := zrng_nI (b := 1) (by omega) hw
      have hh := hc.2.2.1 j hj
      rcases Nat.le_one_iff_eq_zero_or_eq_one.mp hd with rfl | rfl
      · refine ⟨nI (t (16 + j)), M, M, ?_, ?_, hR, hro⟩
        · rw [e100_0, s46r, zbI_some, e1, hs, if_neg (by decide), s46r, zbI_some, hw, if_neg (by decide), if_pos (by decide), s4_2, zbI_some, e100_57, zrd_nI (by omega), if_pos (by omega), hh.1]
        · rw [e162_0, s160, zbI_some, e2, hs, if_neg (by decide), s161, zbI_some, hw, if_neg (by decide), if_pos (by decide), e162_30, show (16 : Int32) + nI j = nI (16 + j) from nI_add 16 j, if_pos ((zinb_nI (by omega)).mpr (by omega)), e162_37, nI_clamp (by omega), hm _ (by omega)]
      · refine ⟨nI (t (28 + j)), M, M, ?_, ?_, hR, hro⟩
        · rw [e100_0, s46r, zbI_some, e1, hs, if_neg (by decide), s46r, zbI_some, hw, if_neg (by decide), if_neg (by decide), s4_3, zbI_some, e100_57, zrd_nI (by omega), if_pos (by omega), hh.2]
        · rw [e162_0, s160, zbI_some, e2, hs, if_neg (by decide), s161, zbI_some, hw, if_neg (by decide), if_neg (by decide), e162_30, show (28 : Int32) + nI j = nI (28 + j) from nI_add 28 j, if_pos ((zinb_nI (by omega)).mpr (by omega)), e162_37, nI_clamp (by omega), hm _ (by omega)]
    · refine ⟨-1, M, M, ?_, ?_, hR, hro⟩
      · rw [e100_0, s46r, zbI_some, e1, hs, if_neg (by decide), s46r, zbI_some, hw, if_pos (by decide), e100_26]
      · rw [e162_0, s160, zbI_some, e2, hs, if_neg (by decide), s161, zbI_some, hw, if_pos (by decide), e162_36, e162_37]
  · refine ⟨-1, M, M, ?_, ?_, hR, hro⟩
    · rw [e100_0, s46r, zbI_some, e1, hs, if_pos (by decide), e100_26]
    · rw [e162_0, s160, zbI_some, e2, hs, if_pos (by decide), e162_36, e162_37]
theorem k_helper (s w : Int32) (hR : zRel M) (hro : ∀ i, zNW ≤ i → M i = ro i) : zSame L ro 102 166 [some (.ref 0), some (.int s), some (.int w)] [some (.ref 48), some (.int s), some (.int w)] M := by
  obtain ⟨t, hb, hc, hm, -⟩ := id hR
  have e1 : M 1 6 = nI (t 1) := hc.1.2.1
  have e2 : M 49 1 = nI (t 1) := hm 1 (by omega)
  have ht := hb.1.2.2.1
  rcases zrng_cases s 0 (nI (t 1) - 1) with hs | hs
  · rcases zrng_cases w 0 1 with hw | hw
    · obtain ⟨j, hj, rfl⟩ := zrng_cnt (by omega) hs
      obtain ⟨d, hd, rfl⟩ := zrng_nI (b := 1) (by omega) hw
      have hh := hc.2.2.2.1 j hj
      rcases Nat.le_one_iff_eq_zero_or_eq_one.mp hd with rfl | rfl
      · refine ⟨nI (t (40 + j)), M, M, ?_, ?_, hR, hro⟩
        · rw [e102_0, s46r, zbI_some, e1, hs, if_neg (by decide), s46r, zbI_some, hw, if_neg (by decide), if_pos (by decide), s4_5, zbI_some, e102_57, zrd_nI (by omega), if_pos (by omega), hh.1]
        · rw [e166_0, s165, zbI_some, e2, hs, if_neg (by decide), s161, zbI_some, hw, if_neg (by decide), if_pos (by decide), e166_30, show (40 : Int32) + nI j = nI (40 + j) from nI_add 40 j, if_pos ((zinb_nI (by omega)).mpr (by omega)), e166_37, nI_clamp (by omega), hm _ (by omega)]
      · refine ⟨nI (t (44 + j)), M, M, ?_, ?_, hR, hro⟩
        · rw [e102_0, s46r, zbI_some, e1, hs, if_neg (by decide), s46r, zbI_some, hw, if_neg (by decide), if_neg (by decide), s4_6, zbI_some, e102_57, zrd_nI (by omega), if_pos (by omega), hh.2]
        · rw [e166_0, s165, zbI_some, e2, hs, if_neg (by decide), s161, zbI_some, hw, if_neg (by decide), if_neg (by decide), e166_30, show (44 : Int32) + nI j = nI (44 + j) from nI_add 44 j, if_pos ((zinb_nI (by omega)).mpr (by omega)), e166_37, nI_clamp (by omega), hm _ (by omega)]
    · refine ⟨-1, M, M, ?_, ?_, hR, hro⟩
      · rw [e102_0, s46r, zbI_some, e1, hs, if_neg (by decide), s46r, zbI_some, hw, if_pos (by decide), e102_26]
      · rw [e166_0, s165, zbI_some, e2, hs, if_neg (by decide), s161, zbI_some, hw, if_pos (by decide), e166_36, e166_37]
  · refine ⟨-1, M, M, ?_, ?_, hR, hro⟩
    · rw [e102_0, s46r, zbI_some, e1, hs, if_pos (by decide), e102_26]
    · rw [e166_0, s165, zbI_some, e2, hs, if_pos (by decide), e166_36, e166_37]
theorem k_station (s w : Int32) (hR : zRel M) (hro : ∀ i, zNW ≤ i → M i = ro i) : zSame L ro 104 170 [some (.ref 0), some (.int s), some (.int w)] [some (.ref 48), some (.int s), some (.int w)] M := by
  obtain ⟨t, hb, hc, hm, -⟩ := id hR
  have e1 : M 1 9 = nI (t 2) := hc.1.2.2.1
  have e2 : M 49 2 = nI (t 2) := hm 2 (by omega)
  have ht := hb.1.2.2.2.1
  rcases zrng_cases s 0 (nI (t 2) - 1) with hs | hs
  · rcases zrng_cases w 0 1 with hw | hw
    · obtain ⟨j, hj, rfl⟩ := zrng_cnt (by omega) hs
      obtain ⟨d, hd, rfl⟩ := zrng_nI (b := 1) (by omega) hw
      have hh := hc.2.2.2.2.2.1 j hj
      have hbit := zbits_get (f := fun q => t (79 + q)) (n := t 2) (fun q hq => (hb.2.2.2.2.2.1 q hq).2) j hj
      have hle := (hb.2.2.2.2.2.1 j hj).2
      rcases Nat.le_one_iff_eq_zero_or_eq_one.mp hd with rfl | rfl
      · refine ⟨nI (t (72 + j)), M, M, ?_, ?_, hR, hro⟩
        · rw [e104_0, s46r, zbI_some, e1, hs, if_neg (by decide), s46r, zbI_some, hw, if_neg (by decide), if_pos (by decide), s4_8, zbI_some, zrd_nI (by omega), if_pos (by omega), hh]
        · rw [e170_0, s169, zbI_some, e2, hs, if_neg (by decide), s161, zbI_some, hw, if_neg (by decide), if_pos (by decide), e170_30, show (72 : Int32) + nI j = nI (72 + j) from nI_add 72 j, if_pos ((zinb_nI (by omega)).mpr (by omega)), e170_37, nI_clamp (by omega), hm _ (by omega)]
      · refine ⟨nI (t (79 + j)), M, M, ?_, ?_, hR, hro⟩
        · rw [e104_0, s46r, zbI_some, e1, hs, if_neg (by decide), s46r, zbI_some, hw, if_neg (by decide), if_neg (by decide), hc.1.2.2.2.2, s18 L (zbits_128 hb) (by omega), zbI_some, hbit]
          rcases Nat.le_one_iff_eq_zero_or_eq_one.mp hle with h | h
          · rw [h, if_pos (by decide), e104_63]; rfl
          · rw [h, if_neg (by decide), e104_63]; rfl
        · rw [e170_0, s169, zbI_some, e2, hs, if_neg (by decide), s161, zbI_some, hw, if_neg (by decide), if_neg (by decide), e170_30, show (79 : Int32) + nI j = nI (79 + j) from nI_add 79 j, if_pos ((zinb_nI (by omega)).mpr (by omega)), e170_37, nI_clamp (by omega), hm _ (by omega)]
    · refine ⟨-1, M, M, ?_, ?_, hR, hro⟩
      · rw [e104_0, s46r, zbI_some, e1, hs, if_neg (by decide), s46r, zbI_some, hw, if_pos (by decide), e104_26]
      · rw [e170_0, s169, zbI_some, e2, hs, if_neg (by decide), s161, zbI_some, hw, if_pos (by decide), e170_36, e170_37]
  · refine ⟨-1, M, M, ?_, ?_, hR, hro⟩
    · rw [e104_0, s46r, zbI_some, e1, hs, if_pos (by decide), e104_26]
    · rw [e170_0, s169, zbI_some, e2, hs, if_pos (by decide), e170_36, e170_37]
theorem k_stands (w : Int32) (hR : zRel M) (hro : ∀ i, zNW ≤ i → M i = ro i) : zSame L ro 111 185 [some (.ref 0), some (.int w)] [some (.ref 48), some (.int w)] M := by
  obtain ⟨t, hb, hc, hm, htx, hnow, -⟩ := id hR
  rcases zrng_cases w 0 5 with hw | hw
  · obtain ⟨d, hd, rfl⟩ := zrng_nI (b := 5) (by omega) hw
    refine ⟨M 52 d, M, M, ?_, ?_, hR, hro⟩
    · rw [e111_0, s46r, zbI_some, hw, if_neg (by decide), s4_40, zbI_some, e111_21, zrd_nI (by omega), if_pos (by omega), hnow.2 d (by omega)]
    · rw [e185_0, s143r L _ 0 5 (by decide) (by decide), zbI_some, hw, if_neg (by decide), if_pos ((zinb_nI (by omega)).mpr (by omega)), e185_22, nI_clamp (by omega)]
  · refine ⟨-1, M, M, ?_, ?_, hR, hro⟩
    · rw [e111_0, s46r, zbI_some, hw, if_pos (by decide), e111_21]
    · rw [e185_0, s143r L _ 0 5 (by decide) (by decide), zbI_some, hw, if_pos (by decide), e185_22]
theorem s58 {t : Nat → Nat} (hc : zTc M 1 t) : zden (L + 1) 58 0 [some (.ref 1)] [] M = some (some (.int (nI (t 5 + t 7 + t 8))), M) := by
  rw [e58_1_0, s0_1, zbI_some, s0_3, zbI_some, s0_4, zbI_some]
  rw [show M 4 1 = nI (t 5) from hc.2.1 1 (by omega), show M 4 3 = nI (t 7) from hc.2.1 3 (by omega), show M 4 4 = nI (t 8) from hc.2.1 4 (by omega), nI_add, nI_add]
theorem s163 {t : Nat → Nat} (hm : zTm M 49 t) : zden (L + 1) 163 0 [some (.ref 48)] [] M = some (some (.int (nI (t 5 + t 7 + t 8))), M) := by
  rw [e163_0, hm 5 (by omega), hm 7 (by omega), hm 8 (by omega), nI_add, nI_add]
theorem k_pram (w : Int32) (hR : zRel M) (hro : ∀ i, zNW ≤ i → M i = ro i) : zSame L ro 101 164 [some (.ref 0), some (.int w)] [some (.ref 48), some (.int w)] M := by
  obtain ⟨t, hb, hc, hm, -⟩ := id hR
  rcases zrng_cases w 0 12 with hw | hw
  · obtain ⟨d, hd, rfl⟩ := zrng_nI (b := 12) (by omega) hw
    by_cases e : d = 12
    · subst e
      refine ⟨nI (t 5 + t 7 + t 8), M, M, ?_, ?_, hR, hro⟩
      · rw [e101_0, s46r, zbI_some, hw, if_neg (by decide), if_pos (by decide), s58 hc, zbI_some, e101_36]
      · rw [e164_0, s143r L _ 0 12 (by decide) (by decide), zbI_some, hw, if_neg (by decide), if_pos (by decide), s163 hm, zbI_some, e164_37]
    · have hne : ¬ nI d = 12 := fun q => e ((nI_eq (by omega) (by omega)).mp q)
      refine ⟨nI (t (4 + d)), M, M, ?_, ?_, hR, hro⟩
      · rw [e101_0, s46r, zbI_some, hw, if_neg (by decide), if_neg hne, s0k L d (by omega) rfl, zbI_some, e101_36, show M 4 d = _ from hc.2.1 d (by omega)]
      · rw [e164_0, s143r L _ 0 12 (by decide) (by decide), zbI_some, hw, if_neg (by decide), if_neg hne, show (4 : Int32) + nI d = nI (4 + d) from nI_add 4 d, if_pos ((zinb_nI (by omega)).mpr (by omega)), e164_37, nI_clamp (by omega), hm _ (by omega)]
  · refine ⟨-1, M, M, ?_, ?_, hR, hro⟩
    · rw [e101_0, s46r, zbI_some, hw, if_pos (by decide)]
    · rw [e164_0, s143r L _ 0 12 (by decide) (by decide), zbI_some, hw, if_pos (by decide), e164_37]
end KG
