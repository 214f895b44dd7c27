def zit (e : Int32) : Nat → Int32
  | 0 => 1000
  | k + 1 => zit e k * (1000 - e) / 1000
def zsm (t : Nat → Nat) (n : Nat) : Int32 := if n = 0 then 0 else 1000 - zit (10 * nI (t 13) / nI n) n
def zch (t : Nat → Nat) (n : Nat) (v : Int32) : Int32 := if v = 0 ∨ n = 0 then zsm t n else 1000 - (1000 - 10 * nI (t 14)) * (1000 - zsm t (n - 1)) / 1000
section KC
variable {L : Nat} {ro M : zM} {t : Nat → Nat}
theorem s1_l {n : Nat} (hn : n < 2 ^ 31) (e : Int32) (o : Option Value) (M : zM) : ∀ d k, d + k = n → zden (L + 1) 1 28 [o, some (.int (nI n)), some (.int e), some (.int (zit e k)), some (.int (nI k))] [] M = some (some (.int (1000 - zit e n)), M) := by
  intro d
  induction d with
  | zero =>
    intro k hk
    have : k = n := by omega
    subst this
    rw [e1_28, if_neg (nI_nlt (by omega) (by omega))]
  | succ d ih =>
    intro k hk
    rw [e1_28, if_pos (nI_lt (by omega) (by omega)), nI_1]
    exact ih (k + 1) (by omega)
theorem s1 (hc : zTc M 1 t) {n : Nat} (hn : n < 2 ^ 31) : zden (L + 1) 1 0 [some (.ref 36), some (.int (nI n)), none, none, none] [] M = some (some (.int (zsm t n)), M) := by
  by_cases h0 : n = 0
  · subst h0
    rw [e1_0, if_neg (by decide)]
    rfl
  · rw [e1_0, if_pos (show (0 : Int32) < nI n from nI_lt (a := 0) (by omega) hn), s0_9, zbI_some, if_neg (nI_ne0 (by omega) hn), show M 4 9 = nI (t 13) from hc.2.1 9 (by omega)]
    have := s1_l (L := L) hn (10 * nI (t 13) / nI n) (some (.ref 36)) M n 0 (by omega)
    unfold zsm
    rw [if_neg h0]
    exact this
theorem s201_l (hm : zTm M 49 t) {n : Nat} (h0 : 0 < n) (hn : n < 2 ^ 31) : ∀ d k, d + k = n → zden (L + 1) 201 6 [some (.ref 48), some (.int (nI n)), some (.int (zit (10 * nI (t 13) / nI n) k)), some (.int (nI k))] [] M = some (some (.int (1000 - zit (10 * nI (t 13) / nI n) n)), M) := by
  intro d
  induction d with
  | zero =>
    intro k hk
    have : k = n := by omega
    subst this
    rw [e201_6, if_neg (nI_nlt (by omega) (by omega))]
  | succ d ih =>
    intro k hk
    rw [e201_6, if_pos (nI_lt (by omega) (by omega)), if_neg (nI_ne0 h0 hn), hm 13 (by omega), nI_1]
    exact ih (k + 1) (by omega)
theorem s201 (hm : zTm M 49 t) {n : Nat} (hn : n < 2 ^ 31) : zden (L + 1) 201 0 [some (.ref 48), some (.int (nI n)), none, none] [] M = some (some (.int (zsm t n)), M) := by
  by_cases h0 : n = 0
  · subst h0
    rw [e201_0, e201_6, if_neg (by decide)]
    rfl
  · rw [e201_0]
    have := s201_l (L := L) hm (n := n) (by omega) hn n 0 (by omega)
    unfold zsm
    rw [if_neg h0]
    exact this
theorem s2 (hc : zTc M 1 t) {n : Nat} (hn : n < 2 ^ 31) (v : Int32) : zden (L + 1) 2 0 [some (.ref 36), some (.int (nI n)), some (.int v), none] [] M = some (some (.int (zch t n v)), M) := by
  rw [e2_0]
  by_cases hv : v = 0
  · rw [if_pos hv, e2_8, s1 hc hn, zbI_some, zch, if_pos (Or.inl hv)]
  · rw [if_neg hv]
    by_cases h0 : n = 0
    · subst h0
      rw [if_neg (by decide), e2_8, s1 hc hn, zbI_some, zch, if_pos (Or.inr rfl)]
    · rw [if_pos (show (0 : Int32) < nI n from nI_lt (a := 0) (by omega) hn), show nI n - 1 = nI (n - 1) from nI_sub (b := 1) (by omega), s1 hc (by omega), zbI_some, s0_10, zbI_some, show M 4 10 = nI (t 14) from hc.2.1 10 (by omega), zch, if_neg (by intro q; rcases q with q | q; exact hv q; exact h0 q)]
theorem s202 (hm : zTm M 49 t) {n : Nat} (hn : n < 2 ^ 31) (v : Int32) : zden (L + 1) 202 0 [some (.ref 48), some (.int (nI n)), some (.int v), none] [] M = some (some (.int (zch t n v)), M) := by
  rw [e202_0]
  by_cases h0 : n = 0
  · subst h0
    rw [if_pos (by decide), e202_8, s201 hm hn, zbI_some, zch, if_pos (Or.inr rfl)]
  · rw [if_neg (nI_ne0 (by omega) hn)]
    by_cases hv : v = 0
    · rw [if_pos hv, e202_8, s201 hm hn, zbI_some, zch, if_pos (Or.inl hv)]
    · rw [if_neg hv, show nI n - 1 = nI (n - 1) from nI_sub (b := 1) (by omega), s201 hm (by omega), zbI_some, hm 14 (by omega), zch, if_neg (by intro q; rcases q with q | q; exact hv q; exact h0 q)]
theorem k_some (n v : Int32) (hR : zRel M) (hro : ∀ i, zNW ≤ i → M i = ro i) : zSame L ro 120 203 [some (.ref 0), some (.int n), some (.int v)] [some (.ref 48), some (.int n), some (.int v)] M := by
  obtain ⟨t, hb, hc, hm, -⟩ := id hR
  rcases zrng_cases n 0 9 with hw | hw
  · obtain ⟨d, hd, rfl⟩ := zrng_nI (b := 9) (by omega) hw
    refine ⟨zch t d v, M, M, ?_, ?_, hR, hro⟩
    · rw [e120_0, s46r, zbI_some, hw, if_neg (by decide), s2 hc (by omega), zbI_some, e120_23]
    · rw [e203_0, s143r L _ 0 9 (by decide) (by decide), zbI_some, hw, if_neg (by decide), s202 hm (by omega), zbI_some, e203_22]
  · refine ⟨-1, M, M, ?_, ?_, hR, hro⟩
    · rw [e120_0, s46r, zbI_some, hw, if_pos (by decide), e120_23]
    · rw [e203_0, s143r L _ 0 9 (by decide) (by decide), zbI_some, hw, if_pos (by decide), e203_22]
end KC
def zfw (t : Nat → Nat) : Nat → Nat → Nat → Nat
  | 0, b, _ => b
  | d + 1, b, n => zfw t d (if zsm t b < zsm t n then n else b) (n + 1)
section KC
variable {L : Nat} {ro M : zM} {t : Nat → Nat}
theorem s3_l (hc : zTc M 1 t) : ∀ d b n, d + n = 10 → b ≤ 9 → zden (L + 1) 3 4 [some (.ref 36), some (.int (nI b)), some (.int (nI n))] [] M = some (some (.int (nI (zfw t d b n))), M) := by
  intro d
  induction d with
  | zero =>
    intro b n h hb
    have : n = 10 := by omega
    subst this
    rw [e3_4, if_pos (by decide)]
    rfl
  | succ d ih =>
    intro b n h hb
    rw [e3_4, if_neg (show ¬ (9 : Int32) < nI n from nI_nlt (a := 9) (b := n) (by omega) (by omega)), s1 hc (by omega), zbI_some, s1 hc (by omega), zbI_some]
    unfold zfw
    by_cases hl : zsm t b < zsm t n
    · rw [if_pos hl, e3_25, nI_1, if_pos hl]
      exact ih n (n + 1) (by omega) (by omega)
    · rw [if_neg hl, e3_25, nI_1, if_neg hl]
      exact ih b (n + 1) (by omega) hb
theorem s204_l (hm : zTm M 49 t) : ∀ d b n, d + n = 10 → b ≤ 9 → zden (L + 1) 204 4 [some (.ref 48), some (.int (nI b)), some (.int (nI n))] [] M = some (some (.int (nI (zfw t d b n))), M) := by
  intro d
  induction d with
  | zero =>
    intro b n h hb
    have : n = 10 := by omega
    subst this
    rw [e204_4, if_neg (by decide)]
    rfl
  | succ d ih =>
    intro b n h hb
    rw [e204_4, if_pos (show nI n < 10 from nI_lt (b := 10) (by omega) (by omega)), s201 hm (by omega), zbI_some, s201 hm (by omega), zbI_some]
    unfold zfw
    by_cases hl : zsm t b < zsm t n
    · rw [if_pos hl, e204_28, nI_1, if_pos hl]
      exact ih n (n + 1) (by omega) (by omega)
    · rw [if_neg hl, e204_28, nI_1, if_neg hl]
      exact ih b (n + 1) (by omega) hb
theorem k_few (hR : zRel M) (hro : ∀ i, zNW ≤ i → M i = ro i) : zSame L ro 121 204 [some (.ref 0)] [some (.ref 48), none, none] M := by
  obtain ⟨t, hb, hc, hm, -⟩ := id hR
  refine ⟨nI (zfw t 8 1 2), M, M, ?_, ?_, hR, hro⟩
  · rw [e121_0, e3_0, show (1 : Int32) = nI 1 from rfl, show (2 : Int32) = nI 2 from rfl, s3_l hc 8 1 2 (by omega) (by omega), zbI_some]
  · rw [e204_0, show (1 : Int32) = nI 1 from rfl, show (2 : Int32) = nI 2 from rfl, s204_l hm 8 1 2 (by omega) (by omega)]
end KC
