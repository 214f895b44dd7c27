def zdr (z k : Nat) : Nat := (7919 * z + 6151 * k + 1) * (7919 * z + 6151 * k + 1) % 65521 % 1000
theorem zdr_eq {z k : Nat} (hz : z ≤ 9999) (hk : k ≤ 300) : ((((7919 * (nI z).toInt64) + (6151 * (nI k).toInt64)) + 1) * (((7919 * (nI z).toInt64) + (6151 * (nI k).toInt64)) + 1)) - ((((7919 * (nI z).toInt64) + (6151 * (nI k).toInt64)) + 1) * (((7919 * (nI z).toInt64) + (6151 * (nI k).toInt64)) + 1)) / 65521 * 65521 - (((((7919 * (nI z).toInt64) + (6151 * (nI k).toInt64)) + 1) * (((7919 * (nI z).toInt64) + (6151 * (nI k).toInt64)) + 1)) - ((((7919 * (nI z).toInt64) + (6151 * (nI k).toInt64)) + 1) * (((7919 * (nI z).toInt64) + (6151 * (nI k).toInt64)) + 1)) / 65521 * 65521) / 1000 * 1000 = lN (zdr z k) := by
  have hb : 7919 * z + 6151 * k + 1 ≤ 100000000 := by omega
  have hsq : (7919 * z + 6151 * k + 1) * (7919 * z + 6151 * k + 1) ≤ 100000000 * 100000000 := Nat.mul_le_mul hb hb
  have hm : (7919 * z + 6151 * k + 1) * (7919 * z + 6151 * k + 1) % 65521 < 65521 := Nat.mod_lt _ (by omega)
  rw [nI_l (by omega), nI_l (by omega), show (7919 : Int64) = lN 7919 from rfl, show (6151 : Int64) = lN 6151 from rfl, show (65521 : Int64) = lN 65521 from rfl, show (1000 : Int64) = lN 1000 from rfl, lN_mul, lN_mul, lN_add, lN_1, lN_mul, pk_lRem (by omega) (by omega) (by omega), pk_lRem (by omega) (by omega) (by omega)]
  rfl
/-- the first minute of d from k on in which one stops -/
def zfo (t : Nat → Nat) (v : Int32) (h z : Nat) : Nat → Nat → Option Nat
  | 0, _ => none
  | d + 1, k => if nI (zdr z k) < zmn t v h k then some k else zfo t v h z d (k + 1)
def zoe (o : Option Nat) : Int32 := match o with
  | some k => nI k
  | none => -4
theorem zfo_lt {t : Nat → Nat} {v : Int32} {h z : Nat} : ∀ {d k j : Nat}, zfo t v h z d k = some j → k ≤ j ∧ j < k + d
  | 0, k, j, q => by simp [zfo] at q
  | d + 1, k, j, q => by
    unfold zfo at q
    split at q
    · cases q; omega
    · have := zfo_lt q
      omega
theorem zfo_s (t : Nat → Nat) (v : Int32) (h z d k : Nat) : zfo t v h z (d + 1) k = if nI (zdr z k) < zmn t v h k then some k else zfo t v h z d (k + 1) := rfl
theorem zfo_cut {t : Nat → Nat} {v : Int32} {h z : Nat} : ∀ {a b k : Nat}, zfo t v h z (a + b) k = match zfo t v h z a k with
    | some j => some j
    | none => zfo t v h z b (k + a)
  | 0, b, k => by simp [zfo]
  | a + 1, b, k => by
    rw [show a + 1 + b = (a + b) + 1 by omega, zfo_s, zfo_s]
    by_cases q : nI (zdr z k) < zmn t v h k
    · rw [if_pos q, if_pos q]
    · rw [if_neg q, if_neg q]
      rw [zfo_cut (a := a) (b := b) (k := k + 1), show k + 1 + a = k + (a + 1) by omega]
section KD
variable {L : Nat} {ro M : zM} {t : Nat → Nat}
theorem s11 {z k : Nat} (hz : z ≤ 9999) (hk : k ≤ 300) (M : zM) : zden (L + 1) 11 0 [some (.int (nI z)), some (.int (nI k)), none, none] [] M = some (some (.int (nI (zdr z k))), M) := by
  rw [e11_0, zdr_eq hz hk, lN_i]
theorem s12_l (v : Int32) {h z m : Nat} (hh : h ≤ 23) (hz : z ≤ 9999) (hm : m ≤ 300) : ∀ d k, d + k = m → zden (L + 1) 12 3 [some (.ref 36), some (.int (nI z)), some (.int (nI h)), some (.int (nI m)), some (.int (nI k))] [] (zmk M t v) = some (some (.int (zoe (zfo t v h z d k))), zmk M t v) := by
  intro d
  induction d with
  | zero =>
    intro k hk
    rw [e12_3, if_neg (nI_nlt (by omega) (by omega))]
    rfl
  | succ d ih =>
    intro k hk
    rw [e12_3, if_pos (nI_lt (by omega) (by omega)), s11 hz (by omega), zbI_some, s7 v hh (by omega), zbI_some]
    unfold zfo
    by_cases hl : nI (zdr z k) < zmn t v h k
    · rw [if_pos hl, if_pos hl]
      rfl
    · rw [if_neg hl, if_neg hl, nI_1]
      exact ih (k + 1) (by omega)
theorem s12 (v : Int32) {h z m : Nat} (hh : h ≤ 23) (hz : z ≤ 9999) (hm : m ≤ 300) : zden (L + 1) 12 0 [some (.ref 36), some (.int (nI z)), some (.int (nI h)), some (.int (nI m)), none] [] (zmk M t v) = some (some (.int (zoe (zfo t v h z m 0))), zmk M t v) := by
  rw [e12_0, show (0 : Int32) = nI 0 from rfl, s12_l v hh hz hm m 0 (by omega)]
theorem zdlt {d : Nat} (hd : d < 1000) (r : Int32) : lg_cmp (lN d) r.toInt64 < 0 ↔ nI d < r := by
  rw [lgc_lt, ← nI_l (by omega), zl_lt]
theorem zdr_lt (z k : Nat) : zdr z k < 1000 := Nat.mod_lt _ (by omega)
theorem s225_l (hb : zTb t) (hm : zTm M 49 t) (v : Int32) {h z : Nat} (hh : h ≤ 23) (hz : z ≤ 9999) : ∀ d k, d + k = 300 → ∀ o5 o6 o7 o8 : Option Value, zden (L + 1) 225 3 [some (.ref 48), some (.int (nI z)), some (.int (nI h)), some (.int v), some (.int (nI k)), o5, o6, o7, o8] [] M = some (some (.int (zoe (zfo t v h z d k))), M) := by
  intro d
  induction d with
  | zero =>
    intro k hk o5 o6 o7 o8
    have : k = 300 := by omega
    subst this
    rw [e225_3, if_neg (by decide)]
    rfl
  | succ d ih =>
    intro k hk o5 o6 o7 o8
    rw [e225_3, if_pos (show nI k < 300 from nI_lt (b := 300) (by omega) (by omega)), s205 hb hm v hh (by omega), zbI_some, zdr_eq hz (by omega)]
    unfold zfo
    by_cases hl : nI (zdr z k) < zmn t v h k
    · rw [if_pos ((zdlt (zdr_lt z k) _).mpr hl), if_pos hl]
      rfl
    · rw [if_neg (fun q => hl ((zdlt (zdr_lt z k) _).mp q)), if_neg hl, nI_1]
      exact ih (k + 1) (by omega) _ _ _ _
theorem s225 (hb : zTb t) (hm : zTm M 49 t) (v : Int32) {h z : Nat} (hh : h ≤ 23) (hz : z ≤ 9999) : zden (L + 1) 225 0 [some (.ref 48), some (.int (nI z)), some (.int (nI h)), some (.int v), none, none, none, none, none] [] M = some (some (.int (zoe (zfo t v h z 300 0))), M) := by
  rw [e225_0, show (0 : Int32) = nI 0 from rfl, s225_l hb hm v hh hz 300 0 (by omega)]
theorem k_day (a b v : Int32) (hR : zRel M) (hro : ∀ i, zNW ≤ i → M i = ro i) : zSame L ro 136 226 [some (.ref 0), some (.int a), some (.int b), some (.int v)] [some (.ref 48), some (.int a), some (.int b), some (.int v)] M := by
  obtain ⟨t, hb, hc, hm, -⟩ := id hR
  rcases zrng_cases a 0 9999 with ha | ha
  · rcases zrng_cases b 0 23 with hw | hw
    · obtain ⟨z, hz, rfl⟩ := zrng_nI (b := 9999) (by omega) ha
      obtain ⟨h, hh, rfl⟩ := zrng_nI (b := 23) (by omega) hw
      refine ⟨zoe (zfo t v h z 300 0), zmk M t v, zmk M t v, ?_, ?_, zRel_1 (a := 37) (by decide) hR (fun i hi => zmk_row v hi), fun i hi => by rw [zmk_row v (by have : zNW = 62 := rfl; omega)]; exact hro i hi⟩
      · rw [e136_0, s46r, zbI_some, ha, if_neg (by decide), s46r, zbI_some, hw, if_neg (by decide), s6 hb hc, zbV_some, show (300 : Int32) = nI 300 from rfl, s12 v hh hz (by omega), zbI_some]
      · have hm' : zTm (zmk M t v) 49 t := zTm_c hm (zmk_row v (by decide))
        rw [e226_0, s143r L _ 0 9999 (by decide) (by decide), zbI_some, ha, if_neg (by decide), s167, zbI_some, hw, if_neg (by decide), s225 hb hm' v hh hz, zbI_some, e226_30]
    · refine ⟨-1, M, M, ?_, ?_, hR, hro⟩
      · rw [e136_0, s46r, zbI_some, ha, if_neg (by decide), s46r, zbI_some, hw, if_pos (by decide), e136_21]
      · rw [e226_0, s143r L _ 0 9999 (by decide) (by decide), zbI_some, ha, if_neg (by decide), s167, zbI_some, hw, if_pos (by decide), e226_29, e226_30]
  · refine ⟨-1, M, M, ?_, ?_, hR, hro⟩
    · rw [e136_0, s46r, zbI_some, ha, if_pos (by decide), e136_21]
    · rw [e226_0, s143r L _ 0 9999 (by decide) (by decide), zbI_some, ha, if_pos (by decide), e226_29, e226_30]
end KD
