def wup (a b : Nat) : Nat := (a + b - 1) / b
def wpt (m : Nat) : Nat := if m = 0 then 1 else if m = 1 then 2 else 4
def wf0 (t : Nat → Nat) (s m l : Nat) : Nat := wup (l * t (16 + s)) (wpt m * t 4)
/-- what a step needs -/
def wfo (t : Nat → Nat) (s m : Nat) (v : Int32) (l : Nat) : Nat := if v = 0 then wf0 t s m l else wf0 t s m l + wup (wf0 t s m l) 2
/-- whether it can be, whatever strength -/
def wcn (t : Nat → Nat) (s m f : Nat) : Bool := decide (m = 2) || (decide ((if m = 0 then 2 else 1) * t (16 + s) ≤ t 4) && decide (f ≤ t 6))
def wbu (t : Nat → Nat) (s m : Nat) (v : Int32) : Nat := if m = 1 then t (16 + s) + wup (t (16 + s)) 2 else if m = 0 then (if v = 0 then t (16 + s) else 2 * t (16 + s)) else 2 * t (16 + s)
def wbe (m : Nat) : Nat := if m = 0 then 1 else if m = 1 then 2 else 5
theorem wup_le {a b : Nat} (hb : 0 < b) : wup a b ≤ a := by
  unfold wup
  have h : (a + b - 1) / b < a + 1 := by
    rw [Nat.div_lt_iff_lt_mul hb, Nat.add_mul]
    have := Nat.le_mul_of_pos_right a hb
    omega
  omega
theorem wpt_pos (m : Nat) : 0 < wpt m := by unfold wpt; split <;> (try split) <;> omega
theorem wpt_le (m : Nat) : wpt m ≤ 4 := by unfold wpt; split <;> (try split) <;> omega
theorem wbe_le (m : Nat) : wbe m ≤ 5 := by unfold wbe; split <;> (try split) <;> omega
theorem wf0_le {t : Nat → Nat} {s m l : Nat} (hb : zTb t) (hs : s < t 0) (hl : l ≤ 180) : wf0 t s m l ≤ 5400 := by
  unfold wf0
  have h1 := wpt_pos m
  have h2 : 0 < t 4 := by have := hb.2.1.1; omega
  refine Nat.le_trans (wup_le (Nat.mul_pos h1 h2)) ?_
  have h3 := (hb.2.2.1 s hs).2.1
  calc l * t (16 + s) ≤ 180 * 30 := Nat.mul_le_mul hl h3
    _ = 5400 := by decide
theorem wfo_le {t : Nat → Nat} {s m l : Nat} {v : Int32} (hb : zTb t) (hs : s < t 0) (hl : l ≤ 180) : wfo t s m v l ≤ 10800 := by
  have h := wf0_le (m := m) hb hs hl
  have h2 := wup_le (a := wf0 t s m l) (b := 2) (by omega)
  unfold wfo
  split <;> omega
theorem wbu_le {t : Nat → Nat} {s m : Nat} {v : Int32} (hb : zTb t) (hs : s < t 0) : wbu t s m v ≤ 60 := by
  have h3 := (hb.2.2.1 s hs).2.1
  have h2 := wup_le (a := t (16 + s)) (b := 2) (by omega)
  unfold wbu
  split
  · omega
  · split
    · split <;> omega
    · omega
theorem zRo_of {M ro : zM} (h : zRo ro) (hro : ∀ i, zNW ≤ i → M i = ro i) : zRo M := by
  unfold zRo at h ⊢
  rw [hro 63 (by decide), hro 64 (by decide), hro 65 (by decide), hro 66 (by decide), hro 67 (by decide), hro 68 (by decide), hro 69 (by decide), hro 70 (by decide)]
  exact h
theorem wpt_ro {M : zM} (h : zRo M) {m : Nat} (hm : m < 3) : M 67 m = nI (wpt m) := by
  have := h.2.2.2.2.1
  rcases m with _ | _ | _ | m
  · exact this.1
  · exact this.2.1
  · exact this.2.2
  · omega
theorem wbe_ro {M : zM} (h : zRo M) {m : Nat} (hm : m < 3) : M 68 m = nI (wbe m) := by
  have := h.2.2.2.2.2.1
  rcases m with _ | _ | _ | m
  · exact this.1
  · exact this.2.1
  · exact this.2.2
  · omega
theorem nI_up {L : Nat} {M : zM} {w q : Nat} (hq : 0 < q) (h : w + q < 2 ^ 31) : zden (L + 1) 59 0 [some (.int (nI w)), some (.int (nI q))] [] M = some (some (.int (nI (wup w q))), M) := by
  rw [s59, nI_cut hq h]; rfl
theorem s172 {L : Nat} {M : zM} {w q : Nat} (hq : 0 < q) (h : w + q < 2 ^ 31) : zden (L + 1) 172 0 [some (.int (nI w)), some (.int (nI q))] [] M = some (some (.int (nI (wup w q))), M) := by
  rw [e172_0, if_neg (nI_ne0 hq (by omega)), nI_add, show (1 : Int32) = nI 1 from rfl, nI_sub (by omega), nI_div (by omega) hq (by omega)]; rfl
section KF
variable {L : Nat} {ro M : zM} {t : Nat → Nat}
theorem zlt_hi (hb : zTb t) {s : Nat} (hs : s < t 0) : s < 12 := by have := hb.1.2.1; omega
theorem s60 {s m l : Nat} (v : Int32) (hb : zTb t) (hc : zTc M 1 t) (hk : zRo M) (hs : s < t 0) (hm : m < 3) (hl : l ≤ 180) : zden (L + 1) 60 0 [some (.ref 26), some (.int (nI s)), some (.int (nI m)), some (.int v), some (.int (nI l)), none] [] M = some (some (.int (nI (wfo t s m v l))), M) := by
  have h12 := zlt_hi hb hs
  have h0 := wf0_le (m := m) hb hs hl
  have h1 := wpt_pos m
  have h1' := wpt_le m
  have h2 : 0 < t 4 := by have := hb.2.1.1; omega
  have h2' : t 4 ≤ 40 := hb.2.1.2.1
  have h3 := (hb.2.2.1 s hs).2.1
  have h4 : l * t (16 + s) ≤ 180 * 30 := Nat.mul_le_mul hl h3
  have h5 : wpt m * t 4 ≤ 4 * 40 := Nat.mul_le_mul h1' h2'
  have h6 : 0 < wpt m * t 4 := Nat.mul_pos h1 h2
  rw [e60_0, s4_2, zbI_some, zrd_nI (by omega), if_pos h12, (hc.2.2.1 s hs).1, s4_67, zbI_some, zrd_nI (by omega), if_pos hm, wpt_ro hk hm, s0_0, zbI_some, show M 4 0 = nI (t 4) from hc.2.1 0 (by omega), nI_mul, nI_mul, nI_up h6 (by omega), zbI_some]
  unfold wfo
  by_cases hv : v = 0
  · rw [if_pos hv, if_pos hv, e60_53]; rfl
  · rw [if_neg hv, if_neg hv, show (2 : Int32) = nI 2 from rfl, nI_up (by omega) (by unfold wf0 at h0; omega), zbI_some, e60_53, nI_add]; rfl
theorem s61 {s m f : Nat} (hb : zTb t) (hc : zTc M 1 t) (hs : s < t 0) (hm : m < 3) (hf : f < 2 ^ 31) : zden (L + 1) 61 0 [some (.ref 26), some (.int (nI s)), some (.int (nI m)), some (.int (nI f)), none] [] M = some (some (.int (zb (wcn t s m f))), M) := by
  have h12 := zlt_hi hb hs
  have h2' : t 4 ≤ 40 := hb.2.1.2.1
  have h6 : t 6 ≤ 99 := hb.2.1.2.2.2.2.2.1
  have h3 := (hb.2.2.1 s hs).2.1
  rw [e61_0]
  by_cases h2 : m = 2
  · subst h2
    rw [if_pos (show nI 2 = 2 from rfl)]; simp [wcn, zb]
  · rw [if_neg (show ¬ nI m = 2 from fun q => h2 ((nI_eq (b := 2) (by omega) (by omega)).mp q))]
    have hg : ∀ c : Nat, c ≤ 2 → (if m = 0 then 2 else 1) = c → zden (L + 1) 61 16 [some (.ref 26), some (.int (nI s)), some (.int (nI m)), some (.int (nI f)), none] [.int (nI c)] M = some (some (.int (zb (wcn t s m f))), M) := by
      intro c hc2 hce
      have h7 : c * t (16 + s) ≤ 2 * 30 := Nat.mul_le_mul hc2 h3
      rw [e61_16, s4_2, zbI_some, zrd_nI (by omega), if_pos h12, (hc.2.2.1 s hs).1, s0_0, zbI_some, show M 4 0 = nI (t 4) from hc.2.1 0 (by omega), nI_mul]
      by_cases ha : t 4 < c * t (16 + s)
      · rw [if_pos (nI_lt ha (by omega)), e61_59, e61_60, if_pos (by decide)]
        have : wcn t s m f = false := by simp [wcn, h2, hce]; omega
        rw [this]; rfl
      · rw [if_neg (nI_nlt (by omega) (by omega)), s0_2, zbI_some, show M 4 2 = nI (t 6) from hc.2.1 2 (by omega)]
        by_cases hd : t 6 < f
        · rw [if_pos (nI_lt hd (by omega)), e61_59, e61_60, if_pos (by decide)]
          have : wcn t s m f = false := by simp [wcn, h2, hce, hd]
          rw [this]; rfl
        · rw [if_neg (nI_nlt (by omega) (by omega)), e61_60, if_pos (by decide)]
          have : wcn t s m f = true := by simp [wcn, h2, hce]; omega
          rw [this]; rfl
    by_cases h0 : m = 0
    · subst h0
      rw [if_pos (show nI 0 = 0 from rfl)]
      exact hg 2 (by omega) rfl
    · rw [if_neg (nI_ne0 (by omega) (by omega))]
      exact hg 1 (by omega) (by rw [if_neg h0])
theorem s62 {s m : Nat} (v : Int32) (hb : zTb t) (hc : zTc M 1 t) (hs : s < t 0) (hm : m < 3) : zden (L + 1) 62 0 [some (.ref 26), some (.int (nI s)), some (.int (nI m)), some (.int v), none] [] M = some (some (.int (nI (wbu t s m v))), M) := by
  have h12 := zlt_hi hb hs
  have h3 := (hb.2.2.1 s hs).2.1
  rw [e62_0, s4_2, zbI_some, zrd_nI (by omega), if_pos h12, (hc.2.2.1 s hs).1]
  unfold wbu
  by_cases h1 : m = 1
  · subst h1
    rw [if_pos (show nI 1 = 1 from rfl), if_pos rfl, show (2 : Int32) = nI 2 from rfl, nI_up (by omega) (by omega), zbI_some, nI_add]
  · rw [if_neg (show ¬ nI m = 1 from fun q => h1 ((nI_eq (b := 1) (by omega) (by omega)).mp q)), if_neg h1]
    by_cases h0 : m = 0
    · subst h0
      rw [if_pos (show nI 0 = 0 from rfl), if_pos rfl]
      by_cases hv : v = 0
      · rw [if_pos hv, if_pos hv, e62_45]
      · rw [if_neg hv, if_neg hv, e62_41, e62_45, show (2 : Int32) = nI 2 from rfl, nI_mul]
    · rw [if_neg (nI_ne0 (by omega) (by omega)), if_neg h0, e62_41, e62_45, show (2 : Int32) = nI 2 from rfl, nI_mul]
theorem s68 {m : Nat} (hk : zRo M) (hm : m < 3) : zden (L + 1) 68 0 [some (.int (nI m))] [] M = some (some (.int (nI (wbe m))), M) := by
  rw [e68_0, s4_68, zbI_some, zrd_nI (by omega), if_pos hm, wbe_ro hk hm]
theorem s67 {f : Nat} (hf : f < 1000000) : zden (L + 1) 67 0 [some (.int (nI f))] [] M = some (some (.int (nI (wup f 8))), M) := by
  rw [e67_0, show (8 : Int32) = nI 8 from rfl, nI_up (by omega) (by omega), zbI_some]
theorem s175 {m : Nat} (hm : m < 3) : zden (L + 1) 175 0 [some (.int (nI m))] [] M = some (some (.int (nI (wbe m))), M) := by
  rw [e175_0]
  rcases m with _ | _ | _ | m
  · rw [if_pos (show nI 0 = 0 from rfl), e175_18]; rfl
  · rw [if_neg (show ¬ nI (0 + 1) = 0 by decide), if_pos (show nI (0 + 1) = 1 from rfl), e175_18]; rfl
  · rw [if_neg (show ¬ nI (0 + 1 + 1) = 0 by decide), if_neg (show ¬ nI (0 + 1 + 1) = 1 by decide), e175_18]; rfl
  · omega
theorem s174 {s m : Nat} (v : Int32) (hb : zTb t) (hc : zTm M 49 t) (hs : s < t 0) (hm : m < 3) : zden (L + 1) 174 0 [some (.ref 48), some (.int (nI s)), some (.int (nI m)), some (.int v), none] [] M = some (some (.int (nI (wbu t s m v))), M) := by
  have h12 := zlt_hi hb hs
  have h3 := (hb.2.2.1 s hs).2.1
  rw [e174_0, show (16 : Int32) + nI s = nI (16 + s) from nI_add 16 s, if_pos ((zinb_nI (by omega)).mpr (by omega)), nI_clamp (by omega), hc _ (by omega)]
  unfold wbu
  by_cases h0 : m = 0
  · subst h0
    rw [if_pos (show nI 0 = 0 from rfl), if_neg (show ¬ (0 = 1) by omega), if_pos (show (0 : Nat) = 0 from rfl)]
    by_cases hv : v = 0
    · rw [if_pos hv, if_pos hv, e174_52]
    · rw [if_neg hv, if_neg hv, e174_52, show (2 : Int32) = nI 2 from rfl, nI_mul]
  · rw [if_neg (nI_ne0 (by omega) (by omega))]
    by_cases h1 : m = 1
    · subst h1
      rw [if_pos (show nI 1 = 1 from rfl), if_pos rfl, show (2 : Int32) = nI 2 from rfl, s172 (by omega) (by omega), zbI_some, e174_52, nI_add]
    · rw [if_neg (show ¬ nI m = 1 from fun q => h1 ((nI_eq (b := 1) (by omega) (by omega)).mp q)), if_neg h1, if_neg h0, e174_52, show (2 : Int32) = nI 2 from rfl, nI_mul]
/-- the other's force: -1 if it can not be -/
def wfm (t : Nat → Nat) (s m : Nat) (v : Int32) (l : Nat) : Int32 := if wcn t s m (wfo t s m v l) = true then nI (wfo t s m v l) else -1
theorem s173 {s m l : Nat} (v : Int32) (hb : zTb t) (hc : zTm M 49 t) (hs : s < t 0) (hm : m < 3) (hl : l ≤ 180) : zden (L + 1) 173 0 [some (.ref 48), some (.int (nI s)), some (.int (nI m)), some (.int v), some (.int (nI l)), none, none, none] [] M = some (some (.int (wfm t s m v l)), M) := by
  have h12 := zlt_hi hb hs
  have h0 := wf0_le (m := m) hb hs hl
  have h1 := wpt_pos m
  have h1' := wpt_le m
  have h2 : 0 < t 4 := by have := hb.2.1.1; omega
  have h2' : t 4 ≤ 40 := hb.2.1.2.1
  have h3 := (hb.2.2.1 s hs).2.1
  have h4 : l * t (16 + s) ≤ 180 * 30 := Nat.mul_le_mul hl h3
  have h5 : wpt m * t 4 ≤ 4 * 40 := Nat.mul_le_mul h1' h2'
  have h6 : 0 < wpt m * t 4 := Nat.mul_pos h1 h2
  have h7 : t 6 ≤ 99 := hb.2.1.2.2.2.2.2.1
  have hlast : ∀ o1 o4 o5 o6 o7 : Option Value, ¬ ((if m = 0 then 2 else 1) * t (16 + s) > t 4 ∧ m < 2) → zden (L + 1) 173 76 [some (.ref 48), o1, some (.int (nI m)), some (.int v), o4, o5, o6, o7] [.int (nI (wpt m * t 4)), .int (nI (l * t (16 + s)))] M = some (some (.int (wfm t s m v l)), M) := by
    intro o1 o4 o5 o6 o7 hn
    have hg : ∀ (o3 o4 o5 o6 o7 : Option Value) (x y : Nat), x + y = wfo t s m v l → zden (L + 1) 173 97 [some (.ref 48), o1, some (.int (nI m)), o3, o4, o5, o6, o7] [.int (nI y), .int (nI x)] M = some (some (.int (wfm t s m v l)), M) := by
      intro o3 o4 o5 o6 o7 x y hxy
      have hfl := wfo_le (m := m) (v := v) hb hs hl
      rw [e173_97, nI_add, hxy, hc 6 (by omega)]
      by_cases hm2 : m < 2
      · rw [if_pos (show nI m < 2 from nI_lt (b := 2) hm2 (by omega))]
        have hm2' : ¬ m = 2 := by omega
        by_cases hf : t 6 < wfo t s m v l
        · rw [if_pos (nI_lt hf (by omega)), e173_123]
          have : wcn t s m (wfo t s m v l) = false := by simp [wcn, hm2', hf]
          simp [wfm, this]
        · rw [if_neg (nI_nlt (by omega) (by omega)), e173_121, e173_123]
          have : wcn t s m (wfo t s m v l) = true := by simp [wcn, hm2']; omega
          simp [wfm, this]
      · rw [if_neg (show ¬ nI m < 2 from nI_nlt (b := 2) (by omega) (by omega)), e173_121, e173_123]
        have hm2' : m = 2 := by omega
        have : wcn t s m (wfo t s m v l) = true := by simp [wcn, hm2']
        simp [wfm, this]
    rw [e173_76, s172 h6 (by omega), zbI_some]
    by_cases hv : v = 0
    · rw [if_pos hv, ← nI_0]
      refine hg _ _ _ _ _ _ _ ?_
      simp [wfo, hv, wf0]
    · rw [if_neg hv, show (2 : Int32) = nI 2 from rfl, s172 (by omega) (by unfold wf0 at h0; omega), zbI_some]
      refine hg _ _ _ _ _ _ _ ?_
      simp [wfo, hv, wf0]
  rw [e173_0, show (16 : Int32) + nI s = nI (16 + s) from nI_add 16 s, if_pos ((zinb_nI (by omega)).mpr (by omega)), nI_clamp (by omega), hc (16 + s) (by omega), hc 4 (by omega)]
  rcases m with _ | _ | _ | m
  · rw [if_pos (show nI 0 = 0 from rfl), show (2 : Int32) = nI 2 from rfl, nI_mul]
    by_cases ha : t 4 < 2 * t (16 + s)
    · rw [if_pos (nI_lt ha (by omega)), e173_44]
      have : wcn t s 0 (wfo t s 0 v l) = false := by simp [wcn]; omega
      simp [wfm, this]
    · rw [if_neg (nI_nlt (by omega) (by omega)), e173_32, if_neg (show ¬ nI 0 = 1 by decide), e173_46, if_pos (show nI 0 = 0 from rfl), nI_mul]
      have := hlast (some (.int (nI s))) (some (.int (nI l))) (some (.int (nI (t (16 + s))))) (some (.int (nI (t 4)))) none (by simp; omega)
      simpa [wpt] using this
  · rw [if_neg (show ¬ nI (0 + 1) = 0 by decide), e173_32, if_pos (show nI (0 + 1) = 1 from rfl)]
    by_cases ha : t 4 < t (16 + s)
    · rw [if_pos (nI_lt ha (by omega)), e173_44]
      have : wcn t s 1 (wfo t s 1 v l) = false := by simp [wcn]; omega
      simp [wfm, this]
    · rw [if_neg (nI_nlt (by omega) (by omega)), e173_46, if_neg (show ¬ nI (0 + 1) = 0 by decide), if_pos (show nI (0 + 1) = 1 from rfl), nI_mul, show (2 : Int32) = nI 2 from rfl, nI_mul]
      have := hlast (some (.int (nI s))) (some (.int (nI l))) (some (.int (nI (t (16 + s))))) (some (.int (nI (t 4)))) none (by simp; omega)
      simpa [wpt] using this
  · rw [if_neg (show ¬ nI (0 + 1 + 1) = 0 by decide), e173_32, if_neg (show ¬ nI (0 + 1 + 1) = 1 by decide), e173_46, if_neg (show ¬ nI (0 + 1 + 1) = 0 by decide), if_neg (show ¬ nI (0 + 1 + 1) = 1 by decide), nI_mul, show (4 : Int32) = nI 4 from rfl, nI_mul]
    have := hlast (some (.int (nI s))) (some (.int (nI l))) (some (.int (nI (t (16 + s))))) (some (.int (nI (t 4)))) none (by simp)
    simpa [wpt] using this
  · omega
theorem wld (hb : zTb t) : t 5 + t 7 + t 8 ≤ 140 := by have := hb.2.1; omega
theorem wfm_neg {s m l : Nat} {v : Int32} (hb : zTb t) (hs : s < t 0) (hl : l ≤ 180) : wfm t s m v l < 0 ↔ wcn t s m (wfo t s m v l) = false := by
  have := wfo_le (m := m) (v := v) hb hs hl
  unfold wfm
  cases hc : wcn t s m (wfo t s m v l)
  · simp
  · simp only [if_true]
    constructor
    · intro h; exact absurd h (nI_pos (by omega))
    · intro h; cases h
theorem k_force (hk : zRo ro) (a b c d : Int32) (hR : zRel M) (hro : ∀ i, zNW ≤ i → M i = ro i) : zSame L ro 106 176 [some (.ref 0), some (.int a), some (.int b), some (.int c), some (.int d), none] [some (.ref 48), some (.int a), some (.int b), some (.int c), some (.int d), none] M := by
  obtain ⟨t, hb, hc, hm, -⟩ := id hR
  have hkm := zRo_of hk hro
  have h0 : M 1 2 = nI (t 0) := hc.1.1
  have h0' : M 49 0 = nI (t 0) := hm 0 (by omega)
  have ht0 : t 0 ≤ 12 := hb.1.2.1
  rcases zrng_cases a 0 (nI (t 0) - 1) with ha | ha
  · rcases zrng_cases b 0 2 with hbb | hbb
    · rcases zrng_cases d 0 2 with hd | hd
      · obtain ⟨s, hs, rfl⟩ := zrng_cnt (by omega) ha
        obtain ⟨m, hm3, rfl⟩ := zrng_nI (b := 2) (by omega) hbb
        obtain ⟨w, hw, rfl⟩ := zrng_nI (b := 2) (by omega) hd
        have hl := wld hb
        have hneg := wfm_neg (m := m) (v := c) (l := t 5 + t 7 + t 8) hb hs (by omega)
        have hfl := wfo_le (m := m) (v := c) (l := t 5 + t 7 + t 8) hb hs (by omega)
        have e1 : zden (L + 1) 106 0 [some (.ref 0), some (.int (nI s)), some (.int (nI m)), some (.int c), some (.int (nI w)), none] [] M = some (some (.int (if wcn t s m (wfo t s m c (t 5 + t 7 + t 8)) = false then -2 else if w = 0 then nI (wfo t s m c (t 5 + t 7 + t 8)) else if w = 1 then nI (wbu t s m c) else nI (wbe m))), M) := by
          rw [e106_0, h0, s46r, zbI_some, ha, if_neg (show ¬ zb true = 0 by decide), s46r, zbI_some, hbb, if_neg (show ¬ zb true = 0 by decide), s46r, zbI_some, hd, if_neg (show ¬ zb true = 0 by decide), s58 hc, zbI_some, s60 c hb hc hkm hs (by omega) (by omega), zbI_some, s61 hb hc hs (by omega) (by omega), zbI_some]
          cases hq : wcn t s m (wfo t s m c (t 5 + t 7 + t 8))
          · rw [if_pos (show zb false = 0 from rfl), if_pos rfl]
          · rw [if_neg (show ¬ zb true = 0 by decide), if_neg (show ¬ true = false by decide)]
            rcases w with _ | _ | _ | w
            · rw [if_pos (show nI 0 = 0 from rfl), if_pos rfl]
            · rw [if_neg (show ¬ nI (0 + 1) = 0 by decide), if_pos (show nI (0 + 1) = 1 from rfl), s62 c hb hc hs (by omega), zbI_some, e106_105]; rfl
            · rw [if_neg (show ¬ nI (0 + 1 + 1) = 0 by decide), if_neg (show ¬ nI (0 + 1 + 1) = 1 by decide), s68 hkm (by omega), zbI_some, e106_105]; rfl
            · omega
        have e2 : zden (L + 1) 176 0 [some (.ref 48), some (.int (nI s)), some (.int (nI m)), some (.int c), some (.int (nI w)), none] [] M = some (some (.int (if wcn t s m (wfo t s m c (t 5 + t 7 + t 8)) = false then -2 else if w = 0 then nI (wfo t s m c (t 5 + t 7 + t 8)) else if w = 1 then nI (wbu t s m c) else nI (wbe m))), M) := by
          rw [e176_0, s160, zbI_some, h0', ha, if_neg (show ¬ zb true = 0 by decide), s143r L _ 0 2 (by decide) (by decide), zbI_some, hbb, if_neg (show ¬ zb true = 0 by decide), s143r L _ 0 2 (by decide) (by decide), zbI_some, hd, if_neg (show ¬ zb true = 0 by decide), s163 hm, zbI_some, s173 c hb hm hs (by omega) (by omega), zbI_some]
          cases hq : wcn t s m (wfo t s m c (t 5 + t 7 + t 8))
          · rw [if_pos (hneg.mpr hq), e176_88, if_pos rfl]
          · rw [if_neg (fun q => by have := hneg.mp q; rw [hq] at this; cases this), if_neg (show ¬ true = false by decide)]
            rcases w with _ | _ | _ | w
            · rw [if_pos (show nI 0 = 0 from rfl), if_pos rfl, e176_88]; simp [wfm, hq]
            · rw [if_neg (show ¬ nI (0 + 1) = 0 by decide), if_pos (show nI (0 + 1) = 1 from rfl), s174 c hb hm hs (by omega), zbI_some, e176_88]; rfl
            · rw [if_neg (show ¬ nI (0 + 1 + 1) = 0 by decide), if_neg (show ¬ nI (0 + 1 + 1) = 1 by decide), s175 (by omega), zbI_some, e176_88]; rfl
            · omega
        exact ⟨_, M, M, e1, e2, hR, hro⟩
      · refine ⟨-1, M, M, ?_, ?_, hR, hro⟩
        · rw [e106_0, h0, s46r, zbI_some, ha, if_neg (show ¬ zb true = 0 by decide), s46r, zbI_some, hbb, if_neg (show ¬ zb true = 0 by decide), s46r, zbI_some, hd, if_pos (show zb false = 0 from rfl), e106_36]
        · rw [e176_0, s160, zbI_some, h0', ha, if_neg (show ¬ zb true = 0 by decide), s143r L _ 0 2 (by decide) (by decide), zbI_some, hbb, if_neg (show ¬ zb true = 0 by decide), s143r L _ 0 2 (by decide) (by decide), zbI_some, hd, if_pos (show zb false = 0 from rfl), e176_33]
    · refine ⟨-1, M, M, ?_, ?_, hR, hro⟩
      · rw [e106_0, h0, s46r, zbI_some, ha, if_neg (show ¬ zb true = 0 by decide), s46r, zbI_some, hbb, if_pos (show zb false = 0 from rfl), e106_36]
      · rw [e176_0, s160, zbI_some, h0', ha, if_neg (show ¬ zb true = 0 by decide), s143r L _ 0 2 (by decide) (by decide), zbI_some, hbb, if_pos (show zb false = 0 from rfl), e176_33]
  · refine ⟨-1, M, M, ?_, ?_, hR, hro⟩
    · rw [e106_0, h0, s46r, zbI_some, ha, if_pos (show zb false = 0 from rfl), e106_36]
    · rw [e176_0, s160, zbI_some, h0', ha, if_pos (show zb false = 0 from rfl), e176_33]
end KF
