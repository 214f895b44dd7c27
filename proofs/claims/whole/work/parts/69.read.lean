theorem zfit_ch : ∀ c : Fin 127, zfit (some .char) (nI c.val) = true := by decide +kernel
theorem zi8_all : ∀ c : Fin 127, (nI c.val).toInt8.toInt32 = nI c.val := by decide +kernel
theorem zrng_nn {x lo hi : Nat} (hx : x < 2 ^ 31) (hl : lo < 2 ^ 31) (hh : hi < 2 ^ 31) : zrng (nI x) (nI lo) (nI hi) = (decide (lo ≤ x) && decide (x ≤ hi)) := by
  unfold zrng
  by_cases h1 : x < lo
  · rw [decide_eq_true (nI_lt h1 hl), decide_eq_false (show ¬ lo ≤ x by omega)]; rfl
  · rw [decide_eq_false (nI_nlt (by omega) hx), decide_eq_true (show lo ≤ x by omega)]
    by_cases h2 : hi < x
    · rw [decide_eq_true (nI_lt h2 hx), decide_eq_false (show ¬ x ≤ hi by omega)]; rfl
    · rw [decide_eq_false (nI_nlt (by omega) hh), decide_eq_true (show x ≤ hi by omega)]; rfl
theorem wLo_le : ∀ j, j < 36 → wLo j ≤ 99 ∧ wHi j ≤ 99 := by decide
theorem wNm_le : ∀ j, j < 12 → 1 ≤ wNm j ∧ wNm j ≤ 3 := by decide
section KP
variable {L : Nat} {ro M : zM} {n : Nat} {X : Nat → Nat}
def wTc (M : zM) (n : Nat) (X : Nat → Nat) : Prop := M 23 1 = nI n ∧ ∀ j, j < n → M 24 j = nI (X j)
theorem wTxt_lt (hX : wTxt n X) (p : Nat) : X p < 127 := by
  by_cases h : p < n
  · have := (hX.2.1 p h).2; omega
  · have := hX.2.2 p (by omega); omega
theorem s33 {p : Nat} (hX : wTxt n X) (hC : wTc M n X) (hp : p ≤ 1000) : zden (L + 1) 33 0 [some (.ref 23), some (.int (nI p))] [] M = some (some (.int (nI (X p))), M) := by
  have h200 := hX.1
  have hlt := wTxt_lt hX p
  have hz := zfit_ch ⟨X p, hlt⟩
  dsimp only at hz
  rw [e33_0, if_neg (nI_pos (by omega)), hC.1]
  by_cases h : p < n
  · rw [if_pos (nI_lt h (by omega)), if_pos (show nI p < 200 from nI_lt (b := 200) (by omega) (by omega)), if_pos ((zinb_nI (by omega)).mpr (by omega)), nI_clamp (by omega), hC.2 p h, e33_31, if_pos hz]
  · have h0 := hX.2.2 p (by omega)
    rw [h0] at hz
    rw [if_neg (nI_nlt (by omega) (by omega)), e33_30, e33_31, h0, nI_0]
    rw [nI_0] at hz
    rw [if_pos hz]
theorem s43 {c : Nat} (hc : c < 127) : zden (L + 1) 43 0 [some (.int (nI c))] [] M = some (some (.int (zb (wdg c))), M) := by
  rw [e43_0]
  unfold wdg
  by_cases h1 : c < 48
  · rw [if_pos (show nI c < 48 from nI_lt (b := 48) h1 (by omega)), e43_16, e43_17, if_pos zfit_0, decide_eq_false (show ¬ 48 ≤ c by omega)]; rfl
  · rw [if_neg (show ¬ nI c < 48 from nI_nlt (b := 48) (by omega) (by omega)), decide_eq_true (show 48 ≤ c by omega)]
    by_cases h2 : 57 < c
    · rw [if_pos (show (57 : Int32) < nI c from nI_lt (a := 57) h2 (by omega)), e43_16, e43_17, if_pos zfit_0, decide_eq_false (show ¬ c ≤ 57 by omega)]; rfl
    · rw [if_neg (show ¬ (57 : Int32) < nI c from nI_nlt (a := 57) (by omega) (by omega)), e43_17, if_pos zfit_1, decide_eq_true (show c ≤ 57 by omega)]; rfl
theorem s44 {p : Nat} (hX : wTxt n X) (hC : wTc M n X) (hp : p ≤ 900) : zden (L + 1) 44 0 [some (.ref 23), some (.int (nI p))] [] M = some (some (.int (nI (wfg X p))), M) := by
  rw [e44_0, s33 hX hC (by omega), zbI_some, s43 (wTxt_lt hX p), zbI_some]
  unfold wfg
  cases h1 : wdg (X p)
  · rw [if_pos (show zb false = 0 from rfl)]; rfl
  · rw [if_neg (show ¬ zb true = 0 by decide), nI_1, s33 hX hC (by omega), zbI_some, s43 (wTxt_lt hX (p + 1)), zbI_some]
    cases h2 : wdg (X (p + 1))
    · rw [if_pos (show zb false = 0 from rfl), e44_31]; rfl
    · rw [if_neg (show ¬ zb true = 0 by decide), e44_31]; rfl
theorem nI_dig {c : Nat} (h : 48 ≤ c) (v : Nat) : (10 : Int32) * nI v + nI c - 48 = nI (10 * v + (c - 48)) := by
  rw [show (10 : Int32) = nI 10 from rfl, nI_mul, nI_add, show (48 : Int32) = nI 48 from rfl, nI_sub (by omega)]
  congr 1; omega
theorem s45 {p : Nat} (hX : wTxt n X) (hC : wTc M n X) (hp : p ≤ 900) : zden (L + 1) 45 0 [some (.ref 23), some (.int (nI p)), some (.int (nI (wfg X p))), none, none] [] M = some (some (.int (nI (wnu X p))), M) := by
  rw [e45_0, show (0 : Int32) = nI 0 from rfl]
  unfold wfg wnu
  by_cases h1 : wdg (X p) = true
  · have d1 := wdg_iff.mp h1
    rw [if_pos h1, if_pos h1]
    by_cases h2 : wdg (X (p + 1)) = true
    · have d2 := wdg_iff.mp h2
      rw [if_pos h2, if_pos h2, e45_5, if_pos (show nI 0 < nI 2 by decide), show nI p + nI 0 = nI p from nI_add p 0, s33 hX hC (by omega), zbI_some, nI_dig d1.1, nI_1, e45_5, if_pos (show nI (0 + 1) < nI 2 by decide), nI_add, s33 hX hC (by omega), zbI_some, nI_dig d2.1, nI_1, e45_5, if_neg (show ¬ nI (0 + 1 + 1) < nI 2 by decide)]
      rw [show 10 * (10 * 0 + (X p - 48)) + (X (p + (0 + 1)) - 48) = 10 * (X p - 48) + (X (p + 1) - 48) by rw [show p + (0 + 1) = p + 1 from rfl]; omega]
    · rw [if_neg h2, if_neg h2, e45_5, if_pos (show nI 0 < nI 1 by decide), show nI p + nI 0 = nI p from nI_add p 0, s33 hX hC (by omega), zbI_some, nI_dig d1.1, nI_1, e45_5, if_neg (show ¬ nI (0 + 1) < nI 1 by decide)]
      rw [show 10 * 0 + (X p - 48) = X p - 48 by omega]
  · rw [if_neg h1, if_neg h1, e45_5, if_neg (show ¬ nI 0 < nI 0 by decide)]
theorem s39 {c : Nat} (hk : zRo M) (hc : c < 127) (o1 o2 : Option Value) : ∀ d j, d + j = 12 → zden (L + 1) 39 7 [some (.ref 70), o1, o2, some (.int 12), some (.int (nI c)), some (.int (nI j))] [] M = some (some (.int (if wkf c d j = 12 then -1 else nI (wkf c d j))), M) := by
  intro d
  induction d with
  | zero =>
    intro j hj
    rw [e39_70_7, if_neg (show ¬ nI j < 12 from nI_nlt (b := 12) (by omega) (by omega)), if_pos (show wkf c 0 j = 12 from rfl)]
  | succ d ih =>
    intro j hj
    have hM : M 70 j = nI (wLt j) := hk.2.2.2.2.2.2.2 j (by omega)
    have hl : wLt j < 2 ^ 31 := by
      have : ∀ j, j < 12 → wLt j < 2 ^ 31 := by decide
      exact this j (by omega)
    rw [e39_70_7, if_pos (show nI j < 12 from nI_lt (b := 12) (by omega) (by omega)), if_pos ((zinb_nI (by omega)).mpr (by omega)), nI_clamp (by omega), hM]
    unfold wkf
    by_cases h : wLt j = c
    · rw [if_pos (by rw [h]), if_pos h, if_neg (by omega)]
    · rw [if_neg (fun q => h ((nI_eq hl (by omega)).mp q)), if_neg h, nI_1]
      exact ih (j + 1) (by omega)
theorem s42 {c : Nat} (hk : zRo M) (hc : c < 127) : zden (L + 1) 42 0 [some (.ref 69), some (.int (nI c))] [] M = some (some (.int (if wki c = 12 then -1 else nI (wki c))), M) := by
  have h69 : M 69 1 = 0 := hk.2.2.2.2.2.2.1
  have h34 : zden (L + 1) 34 0 [some (.ref 69)] [] M = some (some (.int 1), M) := by
    rw [e34_0, if_neg (by decide), h69, if_pos rfl, e34_18, if_pos zfit_1]
  have h36 : zden (L + 1) 36 0 [some (.ref 69)] [] M = some (some (.int 12), M) := by
    rw [e36_0, e35_0, if_neg (by decide), h69, e35_14, if_pos (by decide), zbI_some]
    rfl
  have h8 := zi8_all ⟨c, hc⟩
  dsimp only at h8
  have h39 := s39 (L := L) hk hc (some (.int (nI c))) (some (.int 0)) 12 0 rfl
  rw [nI_0] at h39
  rw [e42_0, e41_0, h34, zbI_some, if_neg (by decide), h36, zbI_some, e40_70_0, e37_0, if_neg (nI_pos (by omega)), if_neg (show ¬ (255 : Int32) < nI c from nI_nlt (a := 255) (by omega) (by omega)), e37_16, if_pos zfit_1, zbI_some, if_neg (by decide), s13, zbI_some, s38, zbI_some]
  rw [if_neg (show ¬ (0 : Int32) < 0 by decide), if_neg (show ¬ (12 : Int32) < 12 by decide), if_pos (show (0 : Int32) < 12 by decide), e39_70_0, h8]
  rw [h39, zbI_some, zbI_some, zbI_some]
  rfl
end KP
