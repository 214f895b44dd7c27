theorem zrng_nIb {j b : Nat} (hj : j < 2 ^ 31) (hb : b < 2 ^ 31) : zrng (nI j) 0 (nI b) = decide (j ≤ b) := by
  by_cases h : j ≤ b
  · rw [zrng_of h hb]; simp [h]
  · have : zrng (nI j) 0 (nI b) = false := by
      simp only [zrng, Bool.and_eq_false_iff, Bool.not_eq_false', decide_eq_true_eq]
      exact Or.inr (nI_lt (by omega) hj)
    rw [this]; simp [h]
theorem zoe_none (o : Option Nat) (h : ∀ j, o = some j → j < 2 ^ 31) : zoe o = -4 ↔ o = none := by
  cases o with
  | none => simp [zoe]
  | some j =>
    constructor
    · intro q
      have hj := h j rfl
      have h1 : (nI j).toInt = (-4 : Int32).toInt := by rw [show nI j = -4 from q]
      rw [nI_toInt hj] at h1
      have : (-4 : Int32).toInt = -4 := by decide
      omega
    · intro q; cases q
theorem zyr_in {t : Nat → Nat} {v : Int32} {h z m : Nat} (hm1 : 1 ≤ m) (hm : m ≤ 300) : zrng (zoe (zfo t v h z 300 0)) 0 (nI m - 1) = (zfo t v h z m 0).isSome := by
  have hcut := zfo_cut (t := t) (v := v) (h := h) (z := z) (a := m) (b := 300 - m) (k := 0)
  rw [show m + (300 - m) = 300 by omega, Nat.zero_add] at hcut
  rw [show nI m - 1 = nI (m - 1) from nI_sub (b := 1) hm1, hcut]
  cases hf : zfo t v h z m 0 with
  | some j =>
    have := zfo_lt hf
    simp only [zoe, Option.isSome_some]
    rw [zrng_nIb (by omega) (by omega)]
    simp
    omega
  | none =>
    simp only [Option.isSome_none]
    cases hg : zfo t v h z (300 - m) m with
    | some j =>
      have := zfo_lt hg
      simp only [zoe]
      rw [zrng_nIb (by omega) (by omega)]
      simp
      omega
    | none =>
      simp only [zoe, zrng, Bool.and_eq_false_iff, Bool.not_eq_false', decide_eq_true_eq]
      exact Or.inl (by decide)
def zyr (t : Nat → Nat) (v : Int32) (h z m : Nat) : Nat → Nat
  | 0 => 0
  | i + 1 => zyr t v h z m i + (if (zfo t v h ((z + i) % 10000) m 0).isSome = true then 1 else 0)
theorem zyz {z i : Nat} (hz : z ≤ 9999) (hi : i ≤ 60) : nI z + nI i - (nI z + nI i) / 10000 * 10000 = nI ((z + i) % 10000) := by
  rw [nI_add, show (10000 : Int32) = nI 10000 from rfl, nI_div (by omega) (by omega) (by omega), nI_mul, nI_sub (by omega)]
  congr 1
  omega
section KY
variable {L : Nat} {ro M : zM} {t : Nat → Nat}
theorem s137_l (v : Int32) {h z m n : Nat} (hh : h ≤ 23) (hz : z ≤ 9999) (hm : m ≤ 300) (hn : n ≤ 60) : ∀ d k, d + k = n → ∀ o : Option Value, zden (L + 1) 137 60 [some (.ref 0), some (.int (nI z)), some (.int (nI n)), some (.int (nI h)), some (.int (nI m)), o, some (.int (nI (zyr t v h z m k))), some (.int (nI k))] [] (zmk M t v) = some (some (.int (nI (zyr t v h z m n))), zmk M t v) := by
  intro d
  induction d with
  | zero =>
    intro k hk o
    have : k = n := by omega
    subst this
    rw [e137_60, if_neg (nI_nlt (by omega) (by omega))]
  | succ d ih =>
    intro k hk o
    have hlt : (z + k) % 10000 < 10000 := Nat.mod_lt _ (by omega)
    rw [e137_60, if_pos (nI_lt (by omega) (by omega)), zyz hz (by omega), s12 v hh (by omega) hm, zbI_some]
    have hz4 := zoe_none (zfo t v h ((z + k) % 10000) m 0) (fun j q => by have := zfo_lt q; omega)
    have hs : zyr t v h z m (k + 1) = zyr t v h z m k + (if (zfo t v h ((z + k) % 10000) m 0).isSome = true then 1 else 0) := rfl
    cases hf : zfo t v h ((z + k) % 10000) m 0 with
    | none =>
      rw [hf] at hs
      rw [if_pos (show zoe none = -4 from rfl), e137_92, nI_1]
      have := ih (k + 1) (by omega) o
      rw [hs] at this
      exact this
    | some j =>
      rw [hf] at hs hz4
      rw [if_neg (fun q => by have := hz4.mp q; cases this), e137_92, nI_1, nI_1]
      have := ih (k + 1) (by omega) (zkl o)
      rw [hs] at this
      exact this
theorem s227_l (hb : zTb t) (hm9 : zTm M 49 t) (v : Int32) {h z m n : Nat} (hh : h ≤ 23) (hz : z ≤ 9999) (hm1 : 1 ≤ m) (hm : m ≤ 300) (hn : n ≤ 60) : ∀ d k, d + k = n → ∀ o : Option Value, zden (L + 1) 227 52 [some (.ref 48), some (.int (nI z)), some (.int (nI n)), some (.int (nI h)), some (.int (nI m)), some (.int v), some (.int (nI (zyr t v h z m k))), some (.int (nI k)), o] [] M = some (some (.int (nI (zyr t v h z m n))), M) := by
  intro d
  induction d with
  | zero =>
    intro k hk o
    have : k = n := by omega
    subst this
    rw [e227_52, if_neg (nI_nlt (by omega) (by omega))]
  | succ d ih =>
    intro k hk o
    have hlt : (z + k) % 10000 < 10000 := Nat.mod_lt _ (by omega)
    have hs : zyr t v h z m (k + 1) = zyr t v h z m k + (if (zfo t v h ((z + k) % 10000) m 0).isSome = true then 1 else 0) := rfl
    rw [e227_52, if_pos (nI_lt (by omega) (by omega)), zyz hz (by omega), s225 hb hm9 v hh (by omega), zbI_some, s143r L _ 0 _ (by decide) rfl, zbI_some, zyr_in hm1 hm]
    cases hf : (zfo t v h ((z + k) % 10000) m 0).isSome with
    | false =>
      rw [hf] at hs
      rw [if_pos (by decide), e227_97, nI_1, show (0 : Int32) = nI 0 from rfl, nI_add]
      have := ih (k + 1) (by omega) (some (.int (zoe (zfo t v h ((z + k) % 10000) 300 0))))
      rw [hs] at this
      exact this
    | true =>
      rw [hf] at hs
      rw [if_neg (by decide), e227_97, nI_1, nI_1]
      have := ih (k + 1) (by omega) (some (.int (zoe (zfo t v h ((z + k) % 10000) 300 0))))
      rw [hs] at this
      exact this
theorem k_year (a n1 b c v : Int32) (hR : zRel M) (hro : ∀ i, zNW ≤ i → M i = ro i) : zSame L ro 137 227 [some (.ref 0), some (.int a), some (.int n1), some (.int b), some (.int c), some (.int v), none, none] [some (.ref 48), some (.int a), some (.int n1), some (.int b), some (.int c), some (.int v), none, none, none] M := by
  obtain ⟨t, hb, hc, hm, -⟩ := id hR
  rcases zrng_cases a 0 9999 with ha | ha
  · rcases zrng_cases n1 1 60 with hn | hn
    · rcases zrng_cases b 0 23 with hw | hw
      · rcases zrng_cases c 1 300 with hx | hx
        · obtain ⟨z, hz, rfl⟩ := zrng_nI (b := 9999) (by omega) ha
          obtain ⟨n, hn1, hn2, rfl⟩ := zrng_ab (a := 1) (b := 60) (by omega) (by omega) hn
          obtain ⟨h, hh, rfl⟩ := zrng_nI (b := 23) (by omega) hw
          obtain ⟨m, hm1, hm2, rfl⟩ := zrng_ab (a := 1) (b := 300) (by omega) (by omega) hx
          refine ⟨nI (zyr t v h z m n), zmk M t v, zmk M t v, ?_, ?_, zRel_1 (a := 37) (by decide) hR (fun i hi => zmk_row v hi), fun i hi => by rw [zmk_row v (by have : zNW = 62 := rfl; omega)]; exact hro i hi⟩
          · rw [e137_0, s46r, zbI_some, ha, if_neg (by decide), s46r, zbI_some, hn, if_neg (by decide), s46r, zbI_some, hw, if_neg (by decide), s46r, zbI_some, hx, if_neg (by decide), s6 hb hc, zbV_some]
            exact s137_l v hh hz hm2 hn2 n 0 (by omega) _
          · have hm' : zTm (zmk M t v) 49 t := zTm_c hm (zmk_row v (by decide))
            rw [e227_0, s143r L _ 0 9999 (by decide) (by decide), zbI_some, ha, if_neg (by decide), s143r L _ 1 60 (by decide) (by decide), zbI_some, hn, if_neg (by decide), s167, zbI_some, hw, if_neg (by decide), s143r L _ 1 300 (by decide) (by decide), zbI_some, hx, if_neg (by decide)]
            exact s227_l hb hm' v hh hz hm1 hm2 hn2 n 0 (by omega) _
        · refine ⟨-1, M, M, ?_, ?_, hR, hro⟩
          · rw [e137_0, s46r, zbI_some, ha, if_neg (by decide), s46r, zbI_some, hn, if_neg (by decide), s46r, zbI_some, hw, if_neg (by decide), s46r, zbI_some, hx, if_pos (by decide), e137_43]
          · rw [e227_0, s143r L _ 0 9999 (by decide) (by decide), zbI_some, ha, if_neg (by decide), s143r L _ 1 60 (by decide) (by decide), zbI_some, hn, if_neg (by decide), s167, zbI_some, hw, if_neg (by decide), s143r L _ 1 300 (by decide) (by decide), zbI_some, hx, if_pos (by decide), e227_44]
      · refine ⟨-1, M, M, ?_, ?_, hR, hro⟩
        · rw [e137_0, s46r, zbI_some, ha, if_neg (by decide), s46r, zbI_some, hn, if_neg (by decide), s46r, zbI_some, hw, if_pos (by decide), e137_43]
        · rw [e227_0, s143r L _ 0 9999 (by decide) (by decide), zbI_some, ha, if_neg (by decide), s143r L _ 1 60 (by decide) (by decide), zbI_some, hn, if_neg (by decide), s167, zbI_some, hw, if_pos (by decide), e227_44]
    · refine ⟨-1, M, M, ?_, ?_, hR, hro⟩
      · rw [e137_0, s46r, zbI_some, ha, if_neg (by decide), s46r, zbI_some, hn, if_pos (by decide), e137_43]
      · rw [e227_0, s143r L _ 0 9999 (by decide) (by decide), zbI_some, ha, if_neg (by decide), s143r L _ 1 60 (by decide) (by decide), zbI_some, hn, if_pos (by decide), e227_44]
  · refine ⟨-1, M, M, ?_, ?_, hR, hro⟩
    · rw [e137_0, s46r, zbI_some, ha, if_pos (by decide), e137_43]
    · rw [e227_0, s143r L _ 0 9999 (by decide) (by decide), zbI_some, ha, if_pos (by decide), e227_44]
end KY
