section KZ
variable {L : Nat} {ro M : zM} {t : Nat → Nat} {v : Int32}
/-- a table of the component, by bumps above the least -/
def wC (f : Nat → Int32) (C : Nat → Nat → Nat) : Prop := ∀ s k, s ≤ 240 → k < 100 → f (100 * s + k) = nI (C s k)
theorem wC_c {f : Nat → Int32} {C E : Nat → Nat → Nat} (h : wC f C) (he : ∀ s k, s ≤ 240 → k < 100 → C s k = E s k) : wC f E := fun s k hs hk => by rw [h s k hs hk, he s k hs hk]
theorem wC_put {s k x : Nat} {C : Nat → Nat → Nat} (hs : s ≤ 240) (hk : k < 100) (h : wC (M 34) C) : wC (zput M 34 (100 * s + k) (nI x) 34) (fun p q => if p = s ∧ q = k then x else C p q) := by
  intro p q hp hq
  show zput M 34 (100 * s + k) (nI x) 34 (100 * p + q) = nI (if p = s ∧ q = k then x else C p q)
  by_cases e : p = s ∧ q = k
  · rw [if_pos e, e.1, e.2, zput_at]
  · rw [if_neg e, zput_o _ _ (Or.inr (by omega)), h p q hp hq]
/-- what a manner brings to a cell; the places of cells; a step under way -/
def aT (t : Nat → Nat) (v : Int32) (i ls m s k : Nat) : Nat := if qQ t v i m = true ∧ qB t v i m - qg t v i ≤ s ∧ ls + qg t v i + s ≤ 10 * t 10 ∧ qF t v i m ≤ k + qU t v i m ∧ k + qU t v i m ≤ t 11 then wRR t i (wG t v i) (k + qU t v i m) (ls + (s - (qB t v i m - qg t v i))) + wbe m else 1000000
def aP (s k : Nat) : Nat := 100 * (240 - s) + k
def aS (t : Nat → Nat) (v : Int32) (i m s k : Nat) : Nat := aP s k + 100 * (qB t v i m - qg t v i) + qU t v i m
def aK (t : Nat → Nat) (v : Int32) (i ls p u s k m : Nat) : Nat := if aS t v i m s k < p ∨ (aS t v i m s k = p ∧ m < u) then aT t v i ls m s k else 1000000
def a3 (t : Nat → Nat) (v : Int32) (i ls p u s k : Nat) : Nat := min (min (min 1000000 (aK t v i ls p u s k 0)) (aK t v i ls p u s k 1)) (aK t v i ls p u s k 2)
def aX (t : Nat → Nat) (v : Int32) (i ls z s k : Nat) : Nat := if s = z then wRR t i (wG t v i) k (ls + s) else wG t v i k (ls + s)
def aG (t : Nat → Nat) (v : Int32) (i ls z p s k : Nat) : Nat := if aP s k < p then a3 t v i ls p 0 s k else aX t v i ls z s k
def aM (t : Nat → Nat) (v : Int32) (i ls z p u s k : Nat) : Nat := if aP s k < p + 1 then a3 t v i ls p u s k else aX t v i ls z s k
theorem a3_top (i ls p u s k : Nat) : a3 t v i ls p u s k ≤ 1000000 := by unfold a3; omega
theorem aX_top (i ls z s k : Nat) : aX t v i ls z s k ≤ 1000000 := by
  unfold aX
  split
  · exact wRR_top (wG_top t v i) _ _
  · exact wG_top t v i _ _
theorem aT_src {i ls m s k z c : Nat} (hst : t 11 ≤ 99) (hs : s ≤ 240) (hz : z ≤ 240) (hc : c ≤ t 11) (h : aS t v i m s k = aP z c) (h2 : aT t v i ls m s k ≠ 1000000) : s = z + (qB t v i m - qg t v i) ∧ k + qU t v i m = c ∧ qQ t v i m = true ∧ ls + qg t v i + s ≤ 10 * t 10 ∧ qF t v i m ≤ c ∧ aT t v i ls m s k = wRR t i (wG t v i) c (ls + z) + wbe m := by
  unfold aT at h2 ⊢
  by_cases hc2 : qQ t v i m = true ∧ qB t v i m - qg t v i ≤ s ∧ ls + qg t v i + s ≤ 10 * t 10 ∧ qF t v i m ≤ k + qU t v i m ∧ k + qU t v i m ≤ t 11
  · unfold aS aP at h
    have e1 : s = z + (qB t v i m - qg t v i) := by omega
    have e2 : k + qU t v i m = c := by omega
    rw [if_pos hc2]
    refine ⟨e1, e2, hc2.1, hc2.2.2.1, by omega, ?_⟩
    rw [e2, show s - (qB t v i m - qg t v i) = z by omega]
  · rw [if_neg hc2] at h2
    exact absurd rfl h2
theorem aM_3 (i ls z p s k : Nat) : aM t v i ls z p 3 s k = aG t v i ls z (p + 1) s k := by
  have h : ∀ m, m < 3 → aK t v i ls p 3 s k m = aK t v i ls (p + 1) 0 s k m := by
    intro m hm
    unfold aK
    by_cases c : aS t v i m s k < p ∨ (aS t v i m s k = p ∧ m < 3)
    · rw [if_pos c, if_pos (by omega)]
    · rw [if_neg c, if_neg (by omega)]
  unfold aM aG a3
  rw [h 0 (by omega), h 1 (by omega), h 2 (by omega)]
theorem aM_0 {i ls z c s k : Nat} (hb : zTb t) (hi : i < t 0) (hz : z ≤ 240) (hc : c < 100) (hs : s ≤ 240) (hk : k < 100) : (if s = z ∧ k = c then 1000000 else aG t v i ls z (aP z c) s k) = aM t v i ls z (aP z c) 0 s k := by
  by_cases e : s = z ∧ k = c
  · rw [if_pos e]
    obtain ⟨rfl, rfl⟩ := e
    have h : ∀ m, aK t v i ls (aP s k) 0 s k m = 1000000 := by
      intro m
      unfold aK
      rw [if_neg]
      unfold aS
      omega
    unfold aM a3
    rw [if_pos (by omega), h, h, h]
    rfl
  · rw [if_neg e]
    unfold aG aM
    by_cases c1 : aP s k < aP z c
    · rw [if_pos c1, if_pos (by omega)]
    · rw [if_neg c1, if_neg (by unfold aP at *; omega)]
theorem aG_no {i ls z c s k : Nat} (hb : zTb t) (hi : i < t 0) (hz : z ≤ 240) (hc : c ≤ t 11) (hs : s ≤ 240) (hk : k < 100) (h : wRR t i (wG t v i) c (ls + z) = 1000000) : aG t v i ls z (aP z c) s k = aG t v i ls z (aP z c + 1) s k := by
  have hst := wSt hb
  have key : ∀ m, min 1000000 (aK t v i ls (aP z c) 0 s k m) = min 1000000 (aK t v i ls (aP z c + 1) 0 s k m) := by
    intro m
    unfold aK
    by_cases c1 : aS t v i m s k < aP z c
    · rw [if_pos (Or.inl c1), if_pos (by omega)]
    · rw [if_neg (by omega)]
      by_cases c2 : aS t v i m s k = aP z c
      · rw [if_pos (by omega)]
        by_cases c3 : aT t v i ls m s k = 1000000
        · rw [c3]
        · have := (aT_src (ls := ls) (by omega) hs hz hc c2 c3).2.2.2.2.2
          rw [h] at this
          omega
      · rw [if_neg (by omega)]
  have k0 := key 0
  have k1 := key 1
  have k2 := key 2
  unfold aG
  by_cases c1 : aP s k < aP z c
  · rw [if_pos c1, if_pos (by omega)]
    unfold a3
    omega
  · rw [if_neg c1]
    by_cases c2 : aP s k = aP z c
    · have e : s = z ∧ k = c := by unfold aP at c2; omega
      have hU : ∀ m, aK t v i ls (aP z c + 1) 0 s k m = 1000000 := by
        intro m
        unfold aK
        have := qU_1 (v := v) (i := i) (m := m) hb hi
        rw [if_neg (by unfold aS; omega)]
      rw [if_pos (by omega)]
      unfold a3 aX
      rw [hU, hU, hU, if_pos e.1, e.1, e.2, h]
      rfl
    · rw [if_neg (by omega)]
/-- one manner more -/
theorem aM_s {i ls z c m s k : Nat} (hb : zTb t) (hi : i < t 0) (hz : z ≤ 240) (hc : c ≤ t 11) (hm : m < 3) (hs : s ≤ 240) (hk : k < 100) (hg : qg t v i < 1000000) : aM t v i ls z (aP z c) (m + 1) s k = if (qF t v i m ≤ c ∧ (z + (qB t v i m - qg t v i) ≤ 240 ∧ ls + qg t v i + (z + (qB t v i m - qg t v i)) ≤ 10 * t 10) ∧ qQ t v i m = true) ∧ (s = z + (qB t v i m - qg t v i) ∧ k = c - qU t v i m) then min (aM t v i ls z (aP z c) m s k) (wRR t i (wG t v i) c (ls + z) + wbe m) else aM t v i ls z (aP z c) m s k := by
  have hst := wSt hb
  have hU := qU_le (t := t) (v := v) (i := i) (m := m)
  have hU1 := qU_1 (v := v) (i := i) (m := m) hb hi
  have hother : ∀ j, j ≠ m → aK t v i ls (aP z c) (m + 1) s k j = aK t v i ls (aP z c) m s k j := by
    intro j hj
    unfold aK
    by_cases c1 : aS t v i j s k < aP z c ∨ (aS t v i j s k = aP z c ∧ j < m)
    · rw [if_pos c1, if_pos (by omega)]
    · rw [if_neg c1, if_neg (by omega)]
  by_cases hcond : (qF t v i m ≤ c ∧ (z + (qB t v i m - qg t v i) ≤ 240 ∧ ls + qg t v i + (z + (qB t v i m - qg t v i)) ≤ 10 * t 10) ∧ qQ t v i m = true) ∧ (s = z + (qB t v i m - qg t v i) ∧ k = c - qU t v i m)
  · rw [if_pos hcond]
    obtain ⟨⟨f1, ⟨f2, f3⟩, f4⟩, f5, f6⟩ := hcond
    have eS : aS t v i m s k = aP z c := by unfold aS aP; omega
    have eT : aT t v i ls m s k = wRR t i (wG t v i) c (ls + z) + wbe m := by
      unfold aT
      rw [if_pos ⟨f4, by omega, by omega, by omega, by omega⟩, show k + qU t v i m = c by omega, show s - (qB t v i m - qg t v i) = z by omega]
    have e1 : aK t v i ls (aP z c) (m + 1) s k m = wRR t i (wG t v i) c (ls + z) + wbe m := by
      unfold aK
      rw [if_pos (Or.inr ⟨eS, by omega⟩), eT]
    have e2 : aK t v i ls (aP z c) m s k m = 1000000 := by
      unfold aK
      rw [if_neg (by omega)]
    have hP : aP s k < aP z c + 1 := by unfold aP; omega
    unfold aM
    rw [if_pos hP, if_pos hP]
    unfold a3
    rcases m3 hm with rfl | rfl | rfl
    · rw [e1, e2, hother 1 (by omega), hother 2 (by omega)]; omega
    · rw [e1, e2, hother 0 (by omega), hother 2 (by omega)]; omega
    · rw [e1, e2, hother 0 (by omega), hother 1 (by omega)]; omega
  · rw [if_neg hcond]
    have e1 : aK t v i ls (aP z c) (m + 1) s k m = aK t v i ls (aP z c) m s k m := by
      unfold aK
      by_cases c1 : aS t v i m s k < aP z c
      · rw [if_pos (Or.inl c1), if_pos (Or.inl c1)]
      · by_cases c2 : aS t v i m s k = aP z c
        · rw [if_pos (Or.inr ⟨c2, by omega⟩), if_neg (by omega)]
          by_cases c3 : aT t v i ls m s k = 1000000
          · exact c3
          · obtain ⟨g1, g2, g3, g4, g5, _⟩ := aT_src (ls := ls) (by omega) hs hz hc c2 c3
            exact absurd ⟨⟨g5, ⟨by omega, by omega⟩, g3⟩, g1, by omega⟩ hcond
        · rw [if_neg (by omega), if_neg (by omega)]
    unfold aM a3
    rcases m3 hm with rfl | rfl | rfl
    · rw [e1, hother 1 (by omega), hother 2 (by omega)]
    · rw [e1, hother 0 (by omega), hother 2 (by omega)]
    · rw [e1, hother 0 (by omega), hother 1 (by omega)]
theorem s64 {i m : Nat} (hb : zTb t) (hc : zTc M 1 t) (hi : i < t 0) (hm : m < 3) (hlk : wLk M t (wst t v i) v) : zden (L + 1) 64 0 [some (.ref 33), some (.int (nI m))] [] M = some (some (.int (zb (qQ t v i m))), M) := by
  have hF := qF_le (v := v) (m := m) hb hi
  have hB := qB_60 (v := v) (m := m) hb hi
  have h9 : t 9 ≤ 99 := by have := hb.2.1; omega
  rw [e64_0, s4_27, zbI_some, zrd_nI (by omega), if_pos hm, (hlk m hm).1]
  have fin : ∀ b : Bool, zden (L + 1) 64 43 [some (.ref 33), some (.int (nI m))] [.int (zb b)] M = some (some (.int (zb b)), M) := by
    intro b
    rw [e64_43, if_pos (zfit_zb b)]
  by_cases c1 : qF t v i m < 1000000
  · rw [if_pos (show nI (wff t (wst t v i) m v) < 1000000 from nI_lt (b := 1000000) c1 (by omega)), s4_28, zbI_some, zrd_nI (by omega), if_pos hm, (hlk m hm).2, s0_5, zbI_some, show M 4 5 = nI (t 9) from hc.2.1 5 (by omega)]
    by_cases c2 : qB t v i m ≤ t 9
    · rw [if_neg (show ¬ nI (t 9) < nI (wbu t (wst t v i) m v) from nI_nlt c2 (by omega)), qQ_iff.mpr ⟨c1, c2⟩]
      exact fin true
    · rw [if_pos (show nI (t 9) < nI (wbu t (wst t v i) m v) from nI_lt (Nat.lt_of_not_le c2) (by unfold qB at hB; omega)), e64_42]
      have : qQ t v i m = false := by
        cases h : qQ t v i m with
        | false => rfl
        | true => exact absurd (qQ_iff.mp h).2 c2
      rw [this]
      exact fin false
  · rw [if_neg (show ¬ nI (wff t (wst t v i) m v) < 1000000 from nI_nlt (b := 1000000) (by unfold qF at c1; omega) (by unfold qF at hF; omega)), e64_42]
    have : qQ t v i m = false := by
      cases h : qQ t v i m with
      | false => rfl
      | true => exact absurd (qQ_iff.mp h).1 c1
    rw [this]
    exact fin false
end KZ
