def zru (t : Nat → Nat) (v : Int32) : Nat → Nat → Nat → Nat
  | 0, b, _ => b
  | d + 1, b, n => zru t v d (if zch t (t (48 + b)) v < zch t (t (48 + n)) v then n else b) (n + 1)
/-- the first minute with a chance of p or more, from minute k on, d minutes more to look at -/
def zwt (t : Nat → Nat) (v : Int32) (h : Nat) (p : Int32) : Nat → Nat → Int32
  | 0, _ => -4
  | d + 1, k => if 1000 - znb t v h (k + 1) < p then zwt t v h p d (k + 1) else nI (k + 1)
section KU
variable {L : Nat} {ro M : zM} {t : Nat → Nat}
theorem s9_l (v : Int32) : ∀ d b n, d + n = 24 → b ≤ 23 → ∀ o : Option Value, zden (L + 1) 9 9 [some (.ref 36), o, some (.int (nI b)), some (.int (nI n))] [] (zmk M t v) = some (some (.int (nI (zru t v d b n))), zmk M t v) := by
  have g : ∀ j, j < 24 → zmk M t v 37 j = zch t (t (48 + j)) v := fun j hj => by unfold zmk; rw [zln_in _ (by omega) (by omega), Nat.sub_zero]
  intro d
  induction d with
  | zero =>
    intro b n h hb o
    have : n = 24 := by omega
    subst this
    rw [e9_9, if_neg (by decide)]
    rfl
  | succ d ih =>
    intro b n h hb o
    rw [e9_9, if_pos (zlt_24 (by omega)), s4_37, zbI_some, zrd_nI (by omega), if_pos (show n < 24 by omega), g n (by omega), s4_37, zbI_some, zrd_nI (by omega), if_pos (show b < 24 by omega), g b (by omega)]
    unfold zru
    by_cases hl : zch t (t (48 + b)) v < zch t (t (48 + n)) v
    · rw [if_pos hl, e9_36, nI_1, if_pos hl]
      exact ih n (n + 1) (by omega) (by omega) _
    · rw [if_neg hl, e9_36, nI_1, if_neg hl]
      exact ih b (n + 1) (by omega) hb _
theorem zmn_0 (v : Int32) {h : Nat} (hh : h ≤ 23) : zmn t v h 0 = zch t (t (48 + h)) v := by
  unfold zmn
  rw [Nat.zero_div, Nat.add_zero, Nat.mod_eq_of_lt (by omega)]
theorem s208_l (hb : zTb t) (hm : zTm M 49 t) (v : Int32) : ∀ d b n, d + n = 24 → b ≤ 23 → zden (L + 1) 208 4 [some (.ref 48), some (.int v), some (.int (nI b)), some (.int (nI n))] [] M = some (some (.int (nI (zru t v d b n))), M) := by
  intro d
  induction d with
  | zero =>
    intro b n h hb
    have : n = 24 := by omega
    subst this
    rw [e208_4, if_neg (by decide)]
    rfl
  | succ d ih =>
    intro b n h hb2
    rw [e208_4, if_pos (zlt_24 (by omega)), show (0 : Int32) = nI 0 from rfl, s205 hb hm v (h := n) (by omega) (by omega), zbI_some, s205 hb hm v (h := b) (by omega) (by omega), zbI_some, zmn_0 v (by omega), zmn_0 v (by omega)]
    unfold zru
    by_cases hl : zch t (t (48 + b)) v < zch t (t (48 + n)) v
    · rw [if_pos hl, e208_32, nI_1, if_pos hl]
      exact ih n (n + 1) (by omega) (by omega)
    · rw [if_neg hl, e208_32, nI_1, if_neg hl]
      exact ih b (n + 1) (by omega) hb2
theorem k_rush (v : Int32) (hR : zRel M) (hro : ∀ i, zNW ≤ i → M i = ro i) : zSame L ro 123 208 [some (.ref 0), some (.int v)] [some (.ref 48), some (.int v), none, none] M := by
  obtain ⟨t, hb, hc, hm, -⟩ := id hR
  refine ⟨nI (zru t v 23 0 1), zmk M t v, zmk M t v, ?_, ?_, zRel_1 (a := 37) (by decide) hR (fun i hi => zmk_row v hi), fun i hi => by rw [zmk_row v (by have : zNW = 62 := rfl; omega)]; exact hro i hi⟩
  · rw [e123_0, e9_0, s6 hb hc, zbV_some, show (0 : Int32) = nI 0 from rfl, show (1 : Int32) = nI 1 from rfl, s9_l v 23 0 1 (by omega) (by omega), zbI_some]
  · have hm' : zTm (zmk M t v) 49 t := zTm_c hm (zmk_row v (by decide))
    rw [e208_0, show (0 : Int32) = nI 0 from rfl, show (1 : Int32) = nI 1 from rfl, s208_l hb hm' v 23 0 1 (by omega) (by omega)]
theorem s10_l (v p : Int32) {h : Nat} (hh : h ≤ 23) : ∀ d k, d + k = 300 → ∀ o : Option Value, zden (L + 1) 10 13 [some (.ref 36), some (.int (nI h)), some (.int p), o, some (.int (znb t v h k)), some (.int (nI k))] [] (zmk M t v) = some (some (.int (zwt t v h p d k)), zmk M t v) := by
  intro d
  induction d with
  | zero =>
    intro k hk o
    have : k = 300 := by omega
    subst this
    rw [e10_13, if_neg (by decide)]
    rfl
  | succ d ih =>
    intro k hk o
    rw [e10_13, if_pos (show nI k < 300 from nI_lt (b := 300) (by omega) (by omega)), s7 v hh (by omega), zbI_some, nI_1]
    unfold zwt
    by_cases hp : 1000 - znb t v h (k + 1) < p
    · rw [if_pos hp]
      have hp' : 1000 - znb t v h k * (1000 - zmn t v h k) / 1000 < p := hp
      rw [if_pos hp']
      exact ih (k + 1) (by omega) _
    · rw [if_neg hp]
      have hp' : ¬ 1000 - znb t v h k * (1000 - zmn t v h k) / 1000 < p := hp
      rw [if_neg hp']
theorem s209_l (hb : zTb t) (hm : zTm M 49 t) (v p : Int32) {h : Nat} (hh : h ≤ 23) : ∀ d k, d + k = 300 → (1000 - znb t v h k < p) → zden (L + 1) 209 8 [some (.ref 48), some (.int (nI h)), some (.int p), some (.int v), some (.int (znb t v h k)), some (.int (nI k))] [] M = some (some (.int (zwt t v h p d k)), M) := by
  intro d
  induction d with
  | zero =>
    intro k hk hp
    have : k = 300 := by omega
    subst this
    rw [e209_8, if_neg (by decide), if_pos hp, s205 hb hm v hh (by omega), zbI_some, nI_1, e209_8, if_pos (by decide)]
    rfl
  | succ d ih =>
    intro k hk hp
    rw [e209_8, if_neg (show ¬ (300 : Int32) < nI k from nI_nlt (a := 300) (by omega) (by omega)), if_pos hp, s205 hb hm v hh (by omega), zbI_some, nI_1]
    unfold zwt
    by_cases hp2 : 1000 - znb t v h (k + 1) < p
    · rw [if_pos hp2]
      exact ih (k + 1) (by omega) hp2
    · rw [if_neg hp2, e209_8, if_neg (show ¬ (300 : Int32) < nI (k + 1) from nI_nlt (a := 300) (by omega) (by omega))]
      have hp' : ¬ 1000 - znb t v h k * (1000 - zmn t v h k) / 1000 < p := hp2
      rw [if_neg hp']
theorem s10 (hb : zTb t) (hc : zTc M 1 t) (v p : Int32) {h : Nat} (hh : h ≤ 23) : zden (L + 1) 10 0 [some (.ref 36), some (.int (nI h)), some (.int p), some (.int v), none, none] [] M = some (some (.int (zwt t v h p 300 0)), zmk M t v) := by
  rw [e10_0, s6 hb hc, zbV_some, show (1000 : Int32) = znb t v h 0 from rfl, show (0 : Int32) = nI 0 from rfl, s10_l v p hh 300 0 (by omega)]
theorem s209 (hb : zTb t) (hm : zTm M 49 t) (v : Int32) {p h : Nat} (hp : 1 ≤ p) (hp2 : p ≤ 1000) (hh : h ≤ 23) : zden (L + 1) 209 0 [some (.ref 48), some (.int (nI h)), some (.int (nI p)), some (.int v), none, none] [] M = some (some (.int (zwt t v h (nI p) 300 0)), M) := by
  rw [e209_0, show (1000 : Int32) = znb t v h 0 from rfl, show (0 : Int32) = nI 0 from rfl, s209_l hb hm v (nI p) hh 300 0 (by omega)]
  show (1000 : Int32) - 1000 < nI p
  rw [show (1000 : Int32) - 1000 = nI 0 by decide]
  exact nI_lt (by omega) (by omega)
theorem k_await (a b v : Int32) (hR : zRel M) (hro : ∀ i, zNW ≤ i → M i = ro i) : zSame L ro 124 210 [some (.ref 0), some (.int a), some (.int b), some (.int v)] [some (.ref 48), some (.int a), some (.int b), some (.int v)] M := by
  obtain ⟨t, hb, hc, hm, -⟩ := id hR
  rcases zrng_cases a 0 23 with ha | ha
  · rcases zrng_cases b 1 1000 with hw | hw
    · obtain ⟨h, hh, rfl⟩ := zrng_nI (b := 23) (by omega) ha
      obtain ⟨p, hp1, hp2, rfl⟩ := zrng_ab (a := 1) (b := 1000) (by omega) (by omega) hw
      refine ⟨zwt t v h (nI p) 300 0, zmk M t v, zmk M t v, ?_, ?_, zRel_1 (a := 37) (by decide) hR (fun i hi => zmk_row v hi), fun i hi => by rw [zmk_row v (by have : zNW = 62 := rfl; omega)]; exact hro i hi⟩
      · rw [e124_0, s46r, zbI_some, ha, if_neg (by decide), s46r, zbI_some, hw, if_neg (by decide), s10 hb hc v _ hh, zbI_some]
      · have hm' : zTm (zmk M t v) 49 t := zTm_c hm (zmk_row v (by decide))
        rw [e210_0, s167, zbI_some, ha, if_neg (by decide), s143r L _ 1 1000 (by decide) (by decide), zbI_some, hw, if_neg (by decide), s209 hb hm' v hp1 hp2 hh, zbI_some, e210_30]
    · refine ⟨-1, M, M, ?_, ?_, hR, hro⟩
      · rw [e124_0, s46r, zbI_some, ha, if_neg (by decide), s46r, zbI_some, hw, if_pos (by decide), e124_21]
      · rw [e210_0, s167, zbI_some, ha, if_neg (by decide), s143r L _ 1 1000 (by decide) (by decide), zbI_some, hw, if_pos (by decide), e210_29, e210_30]
  · refine ⟨-1, M, M, ?_, ?_, hR, hro⟩
    · rw [e124_0, s46r, zbI_some, ha, if_pos (by decide), e124_21]
    · rw [e210_0, s167, zbI_some, ha, if_pos (by decide), e210_29, e210_30]
end KU
