theorem wup_iff {a b n : Nat} (hb : 0 < b) : wup a b ≤ n ↔ a ≤ n * b := by
  unfold wup
  have h : (a + b - 1) / b < n + 1 ↔ a + b - 1 < (n + 1) * b := Nat.div_lt_iff_lt_mul hb
  have e : (n + 1) * b = n * b + b := by rw [Nat.add_mul, Nat.one_mul]
  rw [e] at h
  constructor
  · intro q; have := h.mp (by omega); omega
  · intro q; have := h.mpr (by omega); omega
theorem wup_ma {a a' b : Nat} (hb : 0 < b) (h : a ≤ a') : wup a b ≤ wup a' b :=
  (wup_iff hb).mpr (Nat.le_trans h ((wup_iff hb).mp (Nat.le_refl _)))
theorem wup_mb {a b c : Nat} (hc : 0 < c) (h : c ≤ b) : wup a b ≤ wup a c :=
  (wup_iff (by omega)).mpr (Nat.le_trans ((wup_iff hc).mp (Nat.le_refl _)) (Nat.mul_le_mul_left _ h))
theorem wfo_of {t : Nat → Nat} {s m m' l l' : Nat} {v : Int32} (h : wf0 t s m l ≤ wf0 t s m' l') : wfo t s m v l ≤ wfo t s m' v l' := by
  have h2 := wup_ma (b := 2) (by omega) h
  unfold wfo
  split <;> omega
theorem wfo_ml {t : Nat → Nat} {s m l l' : Nat} {v : Int32} (hb : zTb t) (h : l ≤ l') : wfo t s m v l ≤ wfo t s m v l' := by
  have h2 : 0 < t 4 := by have := hb.2.1.1; omega
  exact wfo_of (wup_ma (Nat.mul_pos (wpt_pos m) h2) (Nat.mul_le_mul_right _ h))
theorem wfo_m2 {t : Nat → Nat} {s m l : Nat} {v : Int32} (hb : zTb t) : wfo t s 2 v l ≤ wfo t s m v l := by
  have h2 : 0 < t 4 := by have := hb.2.1.1; omega
  exact wfo_of (wup_mb (Nat.mul_pos (wpt_pos m) h2) (Nat.mul_le_mul_right _ (wpt_le m)))
/-- whether each step can be gone by wheels -/
def wgl (t : Nat → Nat) (v : Int32) (l : Nat) : Nat → Bool
  | 0 => true
  | n + 1 => wgl t v l n && decide (wfo t n 2 v l ≤ t 11)
theorem wgl_iff {t : Nat → Nat} {v : Int32} {l : Nat} : ∀ n, wgl t v l n = true ↔ ∀ s, s < n → wfo t s 2 v l ≤ t 11
  | 0 => ⟨fun _ s hs => by omega, fun _ => rfl⟩
  | n + 1 => by
    unfold wgl
    rw [Bool.and_eq_true, decide_eq_true_eq, wgl_iff n]
    constructor
    · rintro ⟨h1, h2⟩ s hs
      by_cases e : s = n
      · rw [e]; exact h2
      · exact h1 s (by omega)
    · intro h
      exact ⟨fun s hs => h s (by omega), h n (by omega)⟩
theorem wjc_ne {kd a b : Nat} (h : wjc kd a b < 1000000) : b < 1000000 := by
  have := wjc_ge (kd := kd) (a := a) (b := b)
  omega
theorem wst_st {t : Nat → Nat} {v : Int32} {s : Nat} (h : s < t 0) : wst t v (wst t v s) = s := by
  unfold wst
  by_cases hv : v = 0
  · simp [hv]
  · simp [hv]; omega
theorem wBf_ex {t : Nat → Nat} {kd l i k : Nat} {v : Int32} {g : Nat → Nat} (h : wBf t kd v l i k g < 1000000) : ∃ m, wfo t (wst t v i) m v l ≤ k ∧ ∃ j, j ≤ k ∧ g j < 1000000 := by
  have hx : ∃ m, wAf t kd v l i m k g < 1000000 := by
    unfold wBf at h
    by_cases h0 : wAf t kd v l i 0 k g < 1000000
    · exact ⟨0, h0⟩
    · by_cases h1 : wAf t kd v l i 1 k g < 1000000
      · exact ⟨1, h1⟩
      · exact ⟨2, by omega⟩
  obtain ⟨m, hm⟩ := hx
  unfold wAf at hm
  by_cases hc : wcn t (wst t v i) m (wfo t (wst t v i) m v l) = true ∧ wfo t (wst t v i) m v l ≤ k
  · rw [if_pos hc] at hm
    exact ⟨m, hc.2, _, by omega, wjc_ne hm⟩
  · rw [if_neg hc] at hm
    omega
theorem wLv_go {t : Nat → Nat} {kd l : Nat} {v : Int32} (hb : zTb t) : ∀ d, d < t 0 → (∃ k, k ≤ t 11 ∧ wLv t kd v l d k < 1000000) → ∀ i, t 0 ≤ i + d → i < t 0 → wfo t (wst t v i) 2 v l ≤ t 11
  | 0, _, _, i, h1, h2 => by omega
  | d + 1, hd, ⟨k, hk, h⟩, i, h1, h2 => by
    have hh : wBf t kd v l (t 0 - 1 - d) k (wLv t kd v l d) < 1000000 ∨ wBf t kd v l (t 0 - 1 - d) (t 11) (wLv t kd v l d) < 1000000 := by
      have h' : min (wBf t kd v l (t 0 - 1 - d) k (wLv t kd v l d)) (wjc kd (wcr t kd) (wBf t kd v l (t 0 - 1 - d) (t 11) (wLv t kd v l d))) < 1000000 := h
      have := wjc_ge (kd := kd) (a := wcr t kd) (b := wBf t kd v l (t 0 - 1 - d) (t 11) (wLv t kd v l d))
      omega
    have hex : ∃ m, wfo t (wst t v (t 0 - 1 - d)) m v l ≤ t 11 ∧ ∃ j, j ≤ t 11 ∧ wLv t kd v l d j < 1000000 := by
      rcases hh with h3 | h3
      · obtain ⟨m, q1, j, q2, q3⟩ := wBf_ex h3
        exact ⟨m, by omega, j, by omega, q3⟩
      · exact wBf_ex h3
    obtain ⟨m, q1, q2⟩ := hex
    by_cases e : i = t 0 - 1 - d
    · rw [e]
      exact Nat.le_trans (wfo_m2 hb) q1
    · exact wLv_go hb d (by omega) q2 i (by omega) h2
theorem wjc_lt {kd a b : Nat} (ha : a ≤ 100) (hb : wSm 2000 b) (h : b < 1000000) : wjc kd a b < 1000000 := by
  have := wjn_le kd a b
  unfold wSm at hb
  unfold wjc
  split <;> omega
theorem wBf_ok {t : Nat → Nat} {kd l i : Nat} {v : Int32} {g : Nat → Nat} (hb : zTb t) (hi : i < t 0) (hg : ∀ j, g j < 1000000) (hg2 : ∀ j, wSm 2000 (g j)) (h : wfo t (wst t v i) 2 v l ≤ t 11) : wBf t kd v l i (t 11) g < 1000000 := by
  have h2 : wAf t kd v l i 2 (t 11) g < 1000000 := by
    unfold wAf
    rw [if_pos ⟨by simp [wcn], h⟩]
    have := wco_le (kd := kd) (m := 2) (v := v) hb (wst_lt (v := v) hi)
    exact wjc_lt (by omega) (hg2 _) (hg _)
  unfold wBf
  omega
theorem wLv_ok {t : Nat → Nat} {kd l : Nat} {v : Int32} (hb : zTb t) (h : ∀ i, i < t 0 → wfo t (wst t v i) 2 v l ≤ t 11) : ∀ d, d < t 0 → ∀ k, wLv t kd v l d k < 1000000
  | 0, _, k => by show (0 : Nat) < 1000000; omega
  | d + 1, hd, k => by
    have ih := wLv_ok (kd := kd) hb h d (by omega)
    have h12 : t 0 ≤ 12 := hb.1.2.1
    have h1 := wBf_ok (kd := kd) (i := t 0 - 1 - d) hb (by omega) ih (fun j => wLv_2000 hb (by omega) j) (h _ (by omega))
    have h2 : wSm 2000 (wBf t kd v l (t 0 - 1 - d) (t 11) (wLv t kd v l d)) := wSm_le (wBf_sm hb (by omega) (by omega) (fun j _ => wLv_sm hb d (by omega) j)) (by omega)
    have hcr := wcr_le (kd := kd) hb
    have h3 := wjc_lt (kd := kd) (a := wcr t kd) (by omega) h2 h1
    show min _ (wjc kd (wcr t kd) (wBf t kd v l (t 0 - 1 - d) (t 11) (wLv t kd v l d))) < 1000000
    omega
theorem wBe_iff {t : Nat → Nat} {kd l : Nat} {v : Int32} (hb : zTb t) : wBe t kd v l < 1000000 ↔ wgl t v l (t 0) = true := by
  have h1t : 1 ≤ t 0 := hb.1.1
  rw [wgl_iff]
  constructor
  · intro h s hs
    obtain ⟨m, q1, q2⟩ := wBf_ex h
    have hall : ∀ i, i < t 0 → wfo t (wst t v i) 2 v l ≤ t 11 := by
      intro i hi
      by_cases e : i = 0
      · rw [e]
        exact Nat.le_trans (wfo_m2 hb) q1
      · exact wLv_go hb (t 0 - 1) (by omega) q2 i (by omega) hi
    have := hall (wst t v s) (wst_lt hs)
    rw [wst_st hs] at this
    exact this
  · intro h
    have hall : ∀ i, i < t 0 → wfo t (wst t v i) 2 v l ≤ t 11 := fun i hi => h _ (wst_lt hi)
    exact wBf_ok hb (by omega) (wLv_ok hb hall (t 0 - 1) (by omega)) (fun j => wLv_2000 hb (by omega) j) (hall 0 (by omega))
/-- the most that goes, of less than k -/
def wrm (t : Nat → Nat) (v : Int32) : Nat → Int32
  | 0 => -4
  | k + 1 => if wgl t v (wl0 t + k) (t 0) = true then nI k else wrm t v k
theorem wrm_no {t : Nat → Nat} {v : Int32} (hb : zTb t) (h : ¬ wgl t v (wl0 t) (t 0) = true) : ∀ k, wrm t v k = -4
  | 0 => rfl
  | k + 1 => by
    unfold wrm
    rw [if_neg, wrm_no hb h k]
    intro q
    refine h ?_
    rw [wgl_iff] at q ⊢
    intro s hs
    exact Nat.le_trans (wfo_ml hb (by omega)) (q s hs)
section KB
variable {L : Nat} {ro M : zM} {t : Nat → Nat}
theorem s78_l {l : Nat} {v : Int32} (hb : zTb t) (hc : zTc M 1 t) (hk : zRo M) (hl : l ≤ 180) : ∀ d k, d + k = t 0 → wgl t v l k = true → zden (L + 1) 78 2 [some (.ref 26), some (.int v), some (.int (nI l)), some (.int (nI k))] [] M = some (some (.int (zb (wgl t v l (t 0)))), M) := by
  have h12 : t 0 ≤ 12 := hb.1.2.1
  have hst := wSt hb
  intro d
  induction d with
  | zero =>
    intro k hd h
    have e : k = t 0 := by omega
    subst e
    rw [e78_2, hc.1.1, if_neg (nI_nlt (by omega) (by omega)), h]; rfl
  | succ d ih =>
    intro k hd h
    have hf := wfo_le (m := 2) (v := v) hb (show k < t 0 by omega) hl
    have h60 := s60 (L := L) (m := 2) v hb hc hk (show k < t 0 by omega) (by omega) hl
    rw [e78_2, hc.1.1, if_pos (nI_lt (by omega) (by omega))]
    rw [show zden (L + 1) 60 0 [some (.ref 26), some (.int (nI k)), some (.int 2), some (.int v), some (.int (nI l)), none] [] M = _ from h60, zbI_some, s0_7, zbI_some, show M 4 7 = nI (t 11) from hc.2.1 7 (by omega)]
    by_cases h1 : wfo t k 2 v l ≤ t 11
    · rw [if_neg (nI_nlt (by omega) (by omega)), nI_1]
      refine ih (k + 1) (by omega) ?_
      unfold wgl
      rw [h, decide_eq_true h1]; rfl
    · rw [if_pos (nI_lt (by omega) (by omega))]
      have : wgl t v l (t 0) = false := by
        cases hw : wgl t v l (t 0) with
        | false => rfl
        | true => exact absurd ((wgl_iff _).mp hw k (by omega)) h1
      rw [this]; rfl
theorem s78 {l : Nat} {v : Int32} (hb : zTb t) (hc : zTc M 1 t) (hk : zRo M) (hl : l ≤ 180) : zden (L + 1) 78 0 [some (.ref 26), some (.int v), some (.int (nI l)), none] [] M = some (some (.int (zb (wgl t v l (t 0)))), M) := by
  rw [e78_0]
  exact s78_l hb hc hk hl (t 0) 0 (by omega) rfl
theorem s132_l {v : Int32} (hb : zTb t) (hc : zTc M 1 t) (hk : zRo M) : ∀ k, k ≤ 41 → zden (L + 1) 132 12 [some (.ref 0), some (.int v), some (.int (nI k + (-1)))] [] M = some (some (.int (wrm t v k)), M) := by
  have hw := wld hb
  intro k
  induction k with
  | zero => intro _; rw [e132_12, if_pos (by decide)]; rfl
  | succ k ih =>
    intro hk2
    rw [nI_dn, e132_12, if_neg (nI_pos (by omega)), s58 hc, zbI_some, nI_add]
    rw [show zden (L + 1) 78 0 [some (.ref 26), some (.int v), some (.int (nI (t 5 + t 7 + t 8 + k))), none] [] M = _ from s78 (l := wl0 t + k) hb hc hk (by unfold wl0; omega), zbI_some]
    unfold wrm
    cases hg : wgl t v (wl0 t + k) (t 0)
    · rw [if_pos (show zb false = 0 from rfl), ih (by omega)]; rfl
    · rw [if_neg (show ¬ zb true = 0 by decide)]; rfl
theorem s132 {v : Int32} (hb : zTb t) (hc : zTc M 1 t) (hk : zRo M) : zden (L + 1) 132 0 [some (.ref 0), some (.int v), none] [] M = some (some (.int (wrm t v (41 - t 7))), M) := by
  have h40 : t 7 ≤ 40 := by have := hb.2.1; omega
  rw [e132_0, s0_3, zbI_some, show M 4 3 = nI (t 7) from hc.2.1 3 (by omega), show (40 : Int32) - nI (t 7) = nI (40 - t 7) from nI_sub h40, ← nI_dn, show 40 - t 7 + 1 = 41 - t 7 by omega]
  exact s132_l hb hc hk _ (by omega)
theorem s221_l {v : Int32} (hb : zTb t) (hm : zTm M 49 t) : ∀ d k, d + k = 41 - t 7 → ∀ P : zM, (∀ i, i ≠ 58 → P i = M i) → ∃ P', zden (L + 1) 221 5 [some (.ref 48), some (.int v), some (.int (wrm t v k)), some (.int (nI k))] [] P = some (some (.int (wrm t v (41 - t 7))), P') ∧ ∀ i, i ≠ 58 → P' i = M i := by
  have h40 : t 7 ≤ 40 := by have := hb.2.1; omega
  have hw := wld hb
  intro d
  induction d with
  | zero =>
    intro k hd P hP
    refine ⟨P, ?_, hP⟩
    rw [e221_5, zTm_58 hm hP 7 (by omega), nI_add, if_pos (show (40 : Int32) < nI (t 7 + k) from nI_lt (a := 40) (by omega) (by omega)), show k = 41 - t 7 by omega]
  | succ d ih =>
    intro k hd P hP
    have hmP := zTm_58 hm hP
    obtain ⟨Q, q1, q2, q3⟩ := s192 (L := L) (kd := 0) (l := wl0 t + k) (v := v) hb hmP (by omega) (by unfold wl0; omega)
    obtain ⟨P', g1, g2⟩ := ih (k + 1) (by omega) Q (fun i hi => by rw [q2 i hi, hP i hi])
    refine ⟨P', ?_, g2⟩
    have hbl := wBe_le (kd := 0) (l := wl0 t + k) (v := v) hb
    rw [nI_0] at q1
    rw [e221_5, hmP 7 (by omega), nI_add, if_neg (show ¬ (40 : Int32) < nI (t 7 + k) from nI_nlt (a := 40) (by omega) (by omega)), s163 hmP, zbI_some, nI_add]
    rw [show zden (L + 1) 192 0 [some (.ref 48), some (.int 0), some (.int v), some (.int (nI (t 5 + t 7 + t 8 + k))), none, none, none, none, none, none, none] [] P = _ from q1, zbI_some]
    rw [show wrm t v (k + 1) = if wgl t v (wl0 t + k) (t 0) = true then nI k else wrm t v k from rfl] at g1
    by_cases hg : wgl t v (wl0 t + k) (t 0) = true
    · rw [if_pos (show nI (wBe t 0 v (wl0 t + k)) < 1000000 from nI_lt (b := 1000000) ((wBe_iff hb).mpr hg) (by omega)), e221_41, nI_1]
      rw [if_pos hg] at g1
      rw [g1]
    · have : ¬ wBe t 0 v (wl0 t + k) < 1000000 := fun q => hg ((wBe_iff hb).mp q)
      rw [if_neg (show ¬ nI (wBe t 0 v (wl0 t + k)) < 1000000 from nI_nlt (b := 1000000) (by omega) (by omega)), e221_41, nI_1]
      rw [if_neg hg] at g1
      rw [g1]
theorem s222_2 {u : Nat} (hb : zTb t) (hm : zTm M 49 t) (hu : u = 2 ∨ u = 3) : ∃ P', zden (L + 1) 222 71 [some (.ref 48), some (.int (nI u))] [.int (if u = 3 then 1 else 0), .int 0, .ref 48] M = some (some (.int (wrm t (if u = 3 then 1 else 0) (41 - t 7))), P') ∧ ∀ i, i ≠ 58 → P' i = M i := by
  have hl : wl0 t ≤ 180 := by have := wld hb; unfold wl0; omega
  obtain ⟨Q, q1, q2, q3⟩ := s192 (L := L) (kd := 0) (v := if u = 3 then 1 else 0) hb hm (by omega) hl
  rw [nI_0] at q1
  have hmQ := zTm_58 hm q2
  have hbl := wBe_le (kd := 0) (l := wl0 t) (v := if u = 3 then 1 else 0) hb
  by_cases h : wBe t 0 (if u = 3 then 1 else 0) (wl0 t) = 1000000
  · refine ⟨Q, ?_, q2⟩
    rw [e222_71, s163 hm, zbI_some]
    rw [show zden (L + 1) 192 0 [some (.ref 48), some (.int 0), some (.int (if u = 3 then 1 else 0)), some (.int (nI (t 5 + t 7 + t 8))), none, none, none, none, none, none, none] [] M = _ from q1, zbI_some, if_pos (show nI (wBe t 0 (if u = 3 then 1 else 0) (wl0 t)) = 1000000 by rw [h]; rfl), e222_102, wrm_no hb]
    intro q
    have := (wBe_iff (kd := 0) hb).mpr q
    omega
  · obtain ⟨P', g1, g2⟩ := s221_l (L := L) (v := if u = 3 then 1 else 0) hb hmQ (41 - t 7) 0 (by omega) Q (fun i _ => rfl)
    refine ⟨P', ?_, fun i hi => by rw [g2 i hi, q2 i hi]⟩
    rw [e222_71, s163 hm, zbI_some]
    rw [show zden (L + 1) 192 0 [some (.ref 48), some (.int 0), some (.int (if u = 3 then 1 else 0)), some (.int (nI (t 5 + t 7 + t 8))), none, none, none, none, none, none, none] [] M = _ from q1, zbI_some, if_neg (show ¬ nI (wBe t 0 (if u = 3 then 1 else 0) (wl0 t)) = 1000000 from fun q => h ((nI_eq (b := 1000000) (by omega) (by omega)).mp q))]
    have fin : ∀ o0 o1 : Option Value, zden (L + 1) 222 99 [o0, o1] [.int (if u = 3 then 1 else 0), .ref 48] Q = some (some (.int (wrm t (if u = 3 then 1 else 0) (41 - t 7))), P') := by
      intro o0 o1
      rw [e222_99, e221_0]
      rw [show zden (L + 1) 221 5 [some (.ref 48), some (.int (if u = 3 then 1 else 0)), some (.int (-4)), some (.int 0)] [] Q = _ from g1, zbI_some, e222_102]
    rcases hu with rfl | rfl
    · rw [if_neg (show ¬ nI 2 = 3 by decide)]
      exact fin _ _
    · rw [if_pos (show nI 3 = 3 from rfl)]
      exact fin _ _
theorem k_tips (hk : zRo ro) (a : Int32) (hR : zRel M) (hro : ∀ i, zNW ≤ i → M i = ro i) : zSame L ro 133 222 [some (.ref 0), some (.int a)] [some (.ref 48), some (.int a)] M := by
  obtain ⟨t, hb, hc, hm, -⟩ := id hR
  have hkM := zRo_of hk hro
  have h1 : M 4 1 = nI (t 5) := hc.2.1 1 (by omega)
  have h3 : M 4 3 = nI (t 7) := hc.2.1 3 (by omega)
  rcases zrng_cases a 0 3 with ha | ha
  · obtain ⟨u, hu, rfl⟩ := zrng_nI (b := 3) (by omega) ha
    by_cases hu2 : u = 2 ∨ u = 3
    · obtain ⟨Q, q1, q2⟩ := s222_2 (L := L) hb hm hu2
      obtain ⟨r1, r2⟩ := zRel_g (M' := Q) hR hro (fun i hi => q2 i (zscr_ne hi (by decide)))
      refine ⟨wrm t (if u = 3 then 1 else 0) (41 - t 7), M, Q, ?_, ?_, r1, r2⟩
      · rw [e133_0, s46r, zbI_some, ha, if_neg (show ¬ zb true = 0 by decide)]
        rcases hu2 with rfl | rfl
        · rw [if_neg (show ¬ nI 2 = 0 by decide), if_neg (show ¬ nI 2 = 1 by decide), if_neg (show ¬ nI 2 = 3 by decide), e133_69, s132 hb hc hkM, zbI_some]; rfl
        · rw [if_neg (show ¬ nI 3 = 0 by decide), if_neg (show ¬ nI 3 = 1 by decide), if_pos (show nI 3 = 3 from rfl), e133_69, s132 hb hc hkM, zbI_some]; rfl
      · rw [e222_0, s143r L _ 0 3 (by decide) (by decide), zbI_some, ha, if_neg (show ¬ zb true = 0 by decide)]
        rcases hu2 with rfl | rfl
        · rw [if_neg (show ¬ nI 2 < 2 by decide), if_neg (show ¬ nI 2 = 3 by decide)]
          exact q1
        · rw [if_neg (show ¬ nI 3 < 2 by decide), if_pos (show nI 3 = 3 from rfl)]
          exact q1
    · have h01 : u = 0 ∨ u = 1 := by omega
      rcases h01 with rfl | rfl
      · refine ⟨if nI (t 5) < 2 * nI (t 7) then 1 else 0, M, M, ?_, ?_, hR, hro⟩
        · rw [e133_0, s46r, zbI_some, ha, if_neg (show ¬ zb true = 0 by decide), if_pos (show nI 0 = 0 from rfl), s0_3, zbI_some, s0_1, zbI_some, h1, h3]
          by_cases h : nI (t 5) < 2 * nI (t 7)
          · rw [if_pos h, if_pos h, e133_41]
          · rw [if_neg h, if_neg h, e133_41]
        · rw [e222_0, s143r L _ 0 3 (by decide) (by decide), zbI_some, ha, if_neg (show ¬ zb true = 0 by decide), if_pos (show nI 0 < 2 by decide), if_neg (show ¬ nI 0 = 1 by decide), hm 5 (by omega), hm 7 (by omega)]
          by_cases h : nI (t 5) < 2 * nI (t 7)
          · rw [if_pos h, if_pos h, e222_58]
          · rw [if_neg h, if_neg h, e222_58]
      · refine ⟨nI (t 5) / 2, M, M, ?_, ?_, hR, hro⟩
        · rw [e133_0, s46r, zbI_some, ha, if_neg (show ¬ zb true = 0 by decide), if_neg (show ¬ nI 1 = 0 by decide), if_pos (show nI 1 = 1 from rfl), s0_1, zbI_some, h1]
        · rw [e222_0, s143r L _ 0 3 (by decide) (by decide), zbI_some, ha, if_neg (show ¬ zb true = 0 by decide), if_pos (show nI 1 < 2 by decide), if_pos (show nI 1 = 1 from rfl), e222_58, hm 5 (by omega)]
  · refine ⟨-1, M, M, ?_, ?_, hR, hro⟩
    · rw [e133_0, s46r, zbI_some, ha, if_pos (show zb false = 0 from rfl)]
    · rw [e222_0, s143r L _ 0 3 (by decide) (by decide), zbI_some, ha, if_pos (show zb false = 0 from rfl)]
end KB
