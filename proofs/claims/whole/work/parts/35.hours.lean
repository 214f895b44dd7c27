def zscr (i : Nat) : Bool := (decide (12 ≤ i) && decide (i ≤ 22)) || [25, 27, 28, 30, 31, 32, 34, 37, 39, 41, 42, 50, 56, 57, 58, 59, 60, 61].contains i
theorem zscr_no {i : Nat} (h : i < 12 ∨ i = 23 ∨ i = 24 ∨ i = 40 ∨ 43 ≤ i ∧ i ≤ 49 ∨ 51 ≤ i ∧ i ≤ 55 ∨ 62 ≤ i) : zscr i = false := by
  simp only [zscr, Bool.or_eq_false_iff, Bool.and_eq_false_iff, decide_eq_false_iff_not, List.contains_eq_mem, decide_eq_false_iff_not, List.mem_cons, List.not_mem_nil, or_false]
  omega
/-- rows that nobody reads again may change -/
theorem zRel_s {M M' : zM} (hR : zRel M) (ho : ∀ i, zscr i = false → i ≠ 48 → M' i = M i) (h48 : ∀ j, j ≠ 11 → M' 48 j = M 48 j) : zRel M' := by
  obtain ⟨t, hb, hc, hm, htx, hnw, hfx, hps, htd, hkp⟩ := hR
  have o : ∀ i, (i < 12 ∨ i = 23 ∨ i = 24 ∨ i = 40 ∨ 43 ≤ i ∧ i ≤ 49 ∨ 51 ≤ i ∧ i ≤ 55 ∨ 62 ≤ i) → i ≠ 48 → M' i = M i := fun i h1 h2 => ho i (zscr_no h1) h2
  exact ⟨t, hb, zTc_c hc (o 1 (by omega) (by omega)) (fun k h1 h2 => o (1 + k) (by omega) (by omega)), zTm_c hm (o 49 (by omega) (by omega)), zTx_c htx (by rw [o 23 (by omega) (by omega)]) (h48 3 (by omega)) (o 24 (by omega) (by omega)) (o 51 (by omega) (by omega)), zNw_c hnw (o 52 (by omega) (by omega)) (o 40 (by omega) (by omega)), zFx_c hfx (by rw [o 43 (by omega) (by omega)]) (by rw [o 43 (by omega) (by omega)]) (by rw [o 45 (by omega) (by omega)]) (by rw [o 45 (by omega) (by omega)]), zPs_c hps (by rw [o 43 (by omega) (by omega)]) (h48 6 (by omega)) (o 53 (by omega) (by omega)) (o 44 (by omega) (by omega)), zTd_c htd (by rw [o 0 (by omega) (by omega)]) (h48 8 (by omega)) (o 47 (by omega) (by omega)) (o 54 (by omega) (by omega)), zKp_c hkp (by rw [o 45 (by omega) (by omega)]) (h48 10 (by omega)) (o 55 (by omega) (by omega)) (o 46 (by omega) (by omega))⟩
theorem zRel_1 {M M' : zM} {a : Nat} (ha : zscr a = true) (hR : zRel M) (ho : ∀ i, i ≠ a → M' i = M i) : zRel M' := by
  have h48 : (48 : Nat) ≠ a := fun q => by rw [← q] at ha; exact absurd ha (by decide)
  refine zRel_s hR (fun i hi _ => ho i (fun q => by rw [q, ha] at hi; cases hi)) (fun j _ => by rw [ho 48 h48])
/-- the chance of minute k from hour h on -/
def zmn (t : Nat → Nat) (v : Int32) (h k : Nat) : Int32 := zch t (t (48 + (h + k / 60) % 24)) v
def zmk (M : zM) (t : Nat → Nat) (v : Int32) : zM := zln M 37 0 24 (fun h => zch t (t (48 + h)) v)
theorem zhr {h k : Nat} (hh : h ≤ 23) (hk : k ≤ 300) : nI h + nI k / 60 - (nI h + nI k / 60) / 24 * 24 = nI ((h + k / 60) % 24) := by
  have h60 : k / 60 ≤ 5 := by omega
  rw [show (60 : Int32) = nI 60 from rfl, nI_div (by omega) (by omega) (by omega), nI_add, show (24 : Int32) = nI 24 from rfl, nI_div (by omega) (by omega) (by omega), nI_mul, nI_sub (by omega)]
  congr 1
  omega
section KH
variable {L : Nat} {ro M : zM} {t : Nat → Nat}
theorem s6_l (hb : zTb t) (hc : zTc M 1 t) (v : Int32) : ∀ d k, d + k = 24 → zden (L + 1) 6 2 [some (.ref 36), some (.int v), some (.int (nI k))] [] (zln M 37 0 k (fun h => zch t (t (48 + h)) v)) = some (none, zmk M t v) := by
  intro d
  induction d with
  | zero =>
    intro k hk
    have : k = 24 := by omega
    subst this
    rw [e6_2, if_neg (by decide)]
    rfl
  | succ d ih =>
    intro k hk
    have hck : zTc (zln M 37 0 k (fun h => zch t (t (48 + h)) v)) 1 t := zTc_c hc (zln_row _ (by decide)) (fun q h1 h2 => zln_row _ (by omega))
    have hs := zln_s M 37 0 k (fun h => zch t (t (48 + h)) v)
    rw [Nat.zero_add] at hs
    have h9 := hb.2.2.2.2.1 k (by omega)
    rw [e6_2, if_pos (zlt_24 (by omega)), s4_7, zbI_some, zrd_nI (by omega), if_pos (by omega), show zln M 37 0 k (fun h => zch t (t (48 + h)) v) 7 k = nI (t (48 + k)) from hck.2.2.2.2.1 k (by omega), s2 hck (by omega), zbI_some, s5_37, zbV_some, zwr_nI (by omega) (by omega), hs, nI_1]
    exact ih (k + 1) (by omega)
theorem s6 (hb : zTb t) (hc : zTc M 1 t) (v : Int32) : zden (L + 1) 6 0 [some (.ref 36), some (.int v), none] [] M = some (none, zmk M t v) := by
  rw [e6_0]
  have := s6_l (L := L) hb hc v 24 0 (by omega)
  rw [zln_0] at this
  exact this
theorem zmk_row (v : Int32) {i : Nat} (h : i ≠ 37) : zmk M t v i = M i := zln_row M h
theorem s7 (v : Int32) {h k : Nat} (hh : h ≤ 23) (hk : k ≤ 300) : zden (L + 1) 7 0 [some (.ref 36), some (.int (nI h)), some (.int (nI k))] [] (zmk M t v) = some (some (.int (zmn t v h k)), zmk M t v) := by
  have hlt : (h + k / 60) % 24 < 24 := Nat.mod_lt _ (by omega)
  rw [e7_0, zhr hh hk, s4_37, zbI_some, zrd_nI (by omega), if_pos hlt]
  unfold zmk
  rw [zln_in _ (by omega) (by omega), Nat.sub_zero]
  rfl
theorem s205 (hb : zTb t) (hm : zTm M 49 t) (v : Int32) {h k : Nat} (hh : h ≤ 23) (hk : k ≤ 300) : zden (L + 1) 205 0 [some (.ref 48), some (.int (nI h)), some (.int (nI k)), some (.int v)] [] M = some (some (.int (zmn t v h k)), M) := by
  have hlt : (h + k / 60) % 24 < 24 := Nat.mod_lt _ (by omega)
  have h9 := hb.2.2.2.2.1 _ hlt
  rw [e205_0, zhr hh hk, show (48 : Int32) = nI 48 from rfl, nI_add, if_pos ((zinb_nI (by omega)).mpr (by omega)), nI_clamp (by omega), hm _ (by omega), s202 hm (by omega), zbI_some]
  rfl
end KH
/-- nobody has stopped yet -/
def znb (t : Nat → Nat) (v : Int32) (h : Nat) : Nat → Int32
  | 0 => 1000
  | k + 1 => znb t v h k * (1000 - zmn t v h k) / 1000
section KH
variable {L : Nat} {ro M : zM} {t : Nat → Nat}
theorem s8_l (v : Int32) {h m : Nat} (hh : h ≤ 23) (hm : m ≤ 300) : ∀ d k, d + k = m → ∀ o : Option Value, zden (L + 1) 8 13 [some (.ref 36), some (.int (nI h)), some (.int (nI m)), o, some (.int (znb t v h k)), some (.int (nI k))] [] (zmk M t v) = some (some (.int (1000 - znb t v h m)), zmk M t v) := by
  intro d
  induction d with
  | zero =>
    intro k hk o
    have : k = m := by omega
    subst this
    rw [e8_13, if_neg (nI_nlt (by omega) (by omega))]
  | succ d ih =>
    intro k hk o
    rw [e8_13, if_pos (nI_lt (by omega) (by omega)), s7 v hh (by omega), zbI_some, nI_1]
    exact ih (k + 1) (by omega) _
theorem s206_l (hb : zTb t) (hm : zTm M 49 t) (v : Int32) {h m : Nat} (hh : h ≤ 23) (hm2 : m ≤ 300) : ∀ d k, d + k = m → zden (L + 1) 206 8 [some (.ref 48), some (.int (nI h)), some (.int (nI m)), some (.int v), some (.int (znb t v h k)), some (.int (nI k))] [] M = some (some (.int (1000 - znb t v h m)), M) := by
  intro d
  induction d with
  | zero =>
    intro k hk
    have : k = m := by omega
    subst this
    rw [e206_8, if_neg (nI_nlt (by omega) (by omega))]
  | succ d ih =>
    intro k hk
    rw [e206_8, if_pos (nI_lt (by omega) (by omega)), s205 hb hm v hh (by omega), zbI_some, nI_1]
    exact ih (k + 1) (by omega)
theorem k_within (a b v : Int32) (hR : zRel M) (hro : ∀ i, zNW ≤ i → M i = ro i) : zSame L ro 122 207 [some (.ref 0), some (.int a), some (.int b), some (.int v)] [some (.ref 48), some (.int a), some (.int b), some (.int v)] M := by
  obtain ⟨t, hb, hc, hm, -⟩ := id hR
  rcases zrng_cases a 0 23 with ha | ha
  · rcases zrng_cases b 0 300 with hw | hw
    · obtain ⟨h, hh, rfl⟩ := zrng_nI (b := 23) (by omega) ha
      obtain ⟨m, hm2, rfl⟩ := zrng_nI (b := 300) (by omega) hw
      refine ⟨1000 - znb t v h m, zmk M t v, zmk M t v, ?_, ?_, zRel_1 (a := 37) (by decide) hR (fun i hi => zmk_row v hi), fun i hi => by rw [zmk_row v (by have : zNW = 62 := rfl; omega)]; exact hro i hi⟩
      · rw [e122_0, s46r, zbI_some, ha, if_neg (by decide), s46r, zbI_some, hw, if_neg (by decide), e8_0, s6 hb hc, zbV_some, show (1000 : Int32) = znb t v h 0 from rfl, show (0 : Int32) = nI 0 from rfl, s8_l v hh hm2 m 0 (by omega), zbI_some]
        rfl
      · have hm' : zTm (zmk M t v) 49 t := zTm_c hm (zmk_row v (by decide))
        rw [e207_0, s167, zbI_some, ha, if_neg (by decide), s143r L _ 0 300 (by decide) (by decide), zbI_some, hw, if_neg (by decide), e206_0, show (1000 : Int32) = znb t v h 0 from rfl, show (0 : Int32) = nI 0 from rfl, s206_l hb hm' v hh hm2 m 0 (by omega), zbI_some, e207_30]
        rfl
    · refine ⟨-1, M, M, ?_, ?_, hR, hro⟩
      · rw [e122_0, s46r, zbI_some, ha, if_neg (by decide), s46r, zbI_some, hw, if_pos (by decide), e122_21]
      · rw [e207_0, s167, zbI_some, ha, if_neg (by decide), s143r L _ 0 300 (by decide) (by decide), zbI_some, hw, if_pos (by decide), e207_29, e207_30]
  · refine ⟨-1, M, M, ?_, ?_, hR, hro⟩
    · rw [e122_0, s46r, zbI_some, ha, if_pos (by decide), e122_21]
    · rw [e207_0, s167, zbI_some, ha, if_pos (by decide), e207_29, e207_30]
end KH
