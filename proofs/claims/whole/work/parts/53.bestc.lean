section KB
variable {L : Nat} {ro M : zM} {t : Nat → Nat}
def wl0 (t : Nat → Nat) : Nat := t 5 + t 7 + t 8
/-- the force that a step asks, the most there is where it can not be -/
def wff (t : Nat → Nat) (s m : Nat) (v : Int32) : Nat := if wcn t s m (wfo t s m v (wl0 t)) = true then wfo t s m v (wl0 t) else 1000000
/-- a step looked at -/
def wLk (P : zM) (t : Nat → Nat) (s : Nat) (v : Int32) : Prop := ∀ m, m < 3 → P 27 m = nI (wff t s m v) ∧ P 28 m = nI (wbu t s m v)
theorem zRo_p {o j : Nat} {x : Int32} (ho : o < 62) (hk : zRo M) : zRo (zput M o j x) := zRo_of hk fun i hi => zput_ne (by have : zNW = 62 := rfl; omega)
theorem zTc_p {o j : Nat} {x : Int32} (ho : 12 ≤ o) (hc : zTc M 1 t) : zTc (zput M o j x) 1 t := zTc_41 hc (fun i hi => zput_ne hi) ho
theorem wff_le {s m : Nat} {v : Int32} (hb : zTb t) (hs : s < t 0) : wff t s m v ≤ 1000000 := by
  have := wfo_le (m := m) (v := v) hb hs (show wl0 t ≤ 180 by have := wld hb; unfold wl0; omega)
  unfold wff; split <;> omega
theorem s63_s {s m : Nat} {v : Int32} (hb : zTb t) (hc : zTc M 1 t) (hk : zRo M) (hs : s < t 0) (hm : m < 3) (o : Option Value) : zden (L + 1) 63 11 [some (.ref 26), some (.int (nI s)), some (.int v), some (.int (nI (wl0 t))), some (.int (nI m)), o] [] M = zden (L + 1) 63 11 [some (.ref 26), some (.int (nI s)), some (.int v), some (.int (nI (wl0 t))), some (.int (nI (m + 1))), some (.int (nI (wfo t s m v (wl0 t))))] [] (zput (zput M 27 m (nI (wff t s m v))) 28 m (nI (wbu t s m v))) := by
  have hl : wl0 t ≤ 180 := by have := wld hb; unfold wl0; omega
  have hf := wfo_le (m := m) (v := v) hb hs hl
  rw [e63_11, if_pos (show nI m < 3 from nI_lt (b := 3) hm (by omega)), s60 v hb hc hk hs hm hl, zbI_some, s61 hb hc hs hm (by omega), zbI_some]
  have fin : ∀ x, x = wff t s m v → zden (L + 1) 63 53 [some (.ref 26), some (.int (nI s)), some (.int v), some (.int (nI (wl0 t))), some (.int (nI m)), some (.int (nI (wfo t s m v (wl0 t))))] [.int (nI x), .int (nI m), .ref 27] M = zden (L + 1) 63 11 [some (.ref 26), some (.int (nI s)), some (.int v), some (.int (nI (wl0 t))), some (.int (nI (m + 1))), some (.int (nI (wfo t s m v (wl0 t))))] [] (zput (zput M 27 m (nI (wff t s m v))) 28 m (nI (wbu t s m v))) := by
    intro x hx
    rw [e63_53, s5_27, zbV_some, zwr_nI hm (by omega), s62 v hb (zTc_p (by omega) hc) hs hm, zbI_some, s5_28, zbV_some, zwr_nI hm (by omega), nI_1, hx]
  unfold wff at fin ⊢
  cases hcn : wcn t s m (wfo t s m v (wl0 t))
  · rw [hcn] at fin
    rw [if_pos (show zb false = 0 from rfl)]
    exact fin 1000000 rfl
  · rw [hcn] at fin
    rw [if_neg (show ¬ zb true = 0 by decide)]
    exact fin _ rfl
theorem s63 {s : Nat} {v : Int32} (hb : zTb t) (hc : zTc M 1 t) (hk : zRo M) (hs : s < t 0) : ∃ P, zden (L + 1) 63 0 [some (.ref 26), some (.int (nI s)), some (.int v), none, none, none] [] M = some (none, P) ∧ (∀ i, i ≠ 27 → i ≠ 28 → P i = M i) ∧ wLk P t s v := by
  have st := fun (P : zM) (o : Option Value) (m : Nat) (hc : zTc P 1 t) (hk : zRo P) (hm : m < 3) => s63_s (L := L) (M := P) (v := v) hb hc hk hs hm o
  have c1 : zTc (zput (zput M 27 0 (nI (wff t s 0 v))) 28 0 (nI (wbu t s 0 v))) 1 t := zTc_p (by omega) (zTc_p (by omega) hc)
  have k1 : zRo (zput (zput M 27 0 (nI (wff t s 0 v))) 28 0 (nI (wbu t s 0 v))) := zRo_p (by omega) (zRo_p (by omega) hk)
  refine ⟨zput (zput (zput (zput (zput (zput M 27 0 (nI (wff t s 0 v))) 28 0 (nI (wbu t s 0 v))) 27 1 (nI (wff t s 1 v))) 28 1 (nI (wbu t s 1 v))) 27 2 (nI (wff t s 2 v))) 28 2 (nI (wbu t s 2 v)), ?_, ?_, ?_⟩
  · rw [e63_0, s58 hc, zbI_some]
    rw [show zden (L + 1) 63 11 [some (.ref 26), some (.int (nI s)), some (.int v), some (.int (nI (t 5 + t 7 + t 8))), some (.int 0), none] [] M = _ from st M none 0 hc hk (by omega), st _ _ 1 c1 k1 (by omega), st _ _ 2 (zTc_p (by omega) (zTc_p (by omega) c1)) (zRo_p (by omega) (zRo_p (by omega) k1)) (by omega), e63_11, if_neg (by decide)]
  · intro i h1 h2
    rw [zput_ne h2, zput_ne h1, zput_ne h2, zput_ne h1, zput_ne h2, zput_ne h1]
  · intro m hm
    rcases m with _ | _ | _ | m
    · exact ⟨by simp [zput], by simp [zput]⟩
    · exact ⟨by simp [zput], by simp [zput]⟩
    · exact ⟨by simp [zput], by simp [zput]⟩
    · omega
theorem s86 {kd s m : Nat} {v : Int32} (hk : zRo M) (hkd : kd ≤ 3) (hm : m < 3) (hlk : wLk M t s v) : zden (L + 1) 86 0 [some (.ref 29), some (.int (nI kd)), some (.int (nI m))] [] M = some (some (.int (nI (wco t kd s m v))), M) := by
  have key : zden (L + 1) 86 37 [some (.ref 29), some (.int (nI kd)), some (.int (nI m))] [] M = some (some (.int (nI (wbu t s m v))), M) := by
    rw [e86_37, s4_28, zbI_some, zrd_nI (by omega), if_pos hm, (hlk m hm).2]
  rw [e86_0]
  unfold wco
  have h4 : kd = 0 ∨ kd = 1 ∨ kd = 2 ∨ kd = 3 := by omega
  rcases h4 with rfl | rfl | rfl | rfl
  · rw [if_pos (show nI 0 = 0 from rfl), e86_32, s68 hk hm, zbI_some, if_pos rfl]
  · rw [if_neg (show ¬ nI 1 = 0 by decide), if_pos (show nI 1 = 1 from rfl), key]; rfl
  · rw [if_neg (show ¬ nI 2 = 0 by decide), if_neg (show ¬ nI 2 = 1 by decide), if_pos (show nI 2 = 2 from rfl), e86_49]; rfl
  · rw [if_neg (show ¬ nI 3 = 0 by decide), if_neg (show ¬ nI 3 = 1 by decide), if_neg (show ¬ nI 3 = 2 by decide), if_pos (show nI 3 = 3 from rfl), key]; rfl
/-- what each manner of it costs -/
def wCs (P : zM) (t : Nat → Nat) (kd s : Nat) (v : Int32) : Prop := wLk P t s v ∧ ∀ m, m < 3 → P 32 m = nI (wco t kd s m v)
theorem wLk_p {s o j : Nat} {v x : Int32} (h : wLk M t s v) (ho : 28 < o) : wLk (zput M o j x) t s v := by
  intro m hm
  rw [zput_ne (by omega), zput_ne (by omega)]
  exact h m hm
theorem s87 {kd i : Nat} {v : Int32} (hb : zTb t) (hc : zTc M 1 t) (hk : zRo M) (hkd : kd ≤ 3) (hi : i < t 0) : ∃ P, zden (L + 1) 87 0 [some (.ref 29), some (.int (nI kd)), some (.int (nI i)), some (.int v), none] [] M = some (none, P) ∧ (∀ j, j ≠ 27 → j ≠ 28 → j ≠ 32 → P j = M j) ∧ wCs P t kd (wst t v i) v := by
  obtain ⟨P, p1, p2, p3⟩ := s63 (L := L) (v := v) hb hc hk (wst_lt (v := v) hi)
  have hkP : zRo P := zRo_of hk fun j hj => p2 j (zn62 hj (by omega)) (zn62 hj (by omega))
  have st : ∀ (Q : zM) (m : Nat) (o2 o3 : Option Value), m < 3 → zRo Q → wLk Q t (wst t v i) v → zden (L + 1) 87 20 [some (.ref 29), some (.int (nI kd)), o2, o3, some (.int (nI m))] [] Q = zden (L + 1) 87 20 [some (.ref 29), some (.int (nI kd)), o2, zkl o3, some (.int (nI (m + 1)))] [] (zput Q 32 m (nI (wco t kd (wst t v i) m v))) := by
    intro Q m o2 o3 hm hkQ hlk
    rw [e87_20, if_pos (show nI m < 3 from nI_lt (b := 3) hm (by omega)), s86 hkQ hkd hm hlk, zbI_some, s5_32, zbV_some, zwr_nI hm (by omega), nI_1]
  have k1 : zRo (zput P 32 0 (nI (wco t kd (wst t v i) 0 v))) := zRo_p (by omega) hkP
  have l1 : wLk (zput P 32 0 (nI (wco t kd (wst t v i) 0 v))) t (wst t v i) v := wLk_p p3 (by omega)
  refine ⟨zput (zput (zput P 32 0 (nI (wco t kd (wst t v i) 0 v))) 32 1 (nI (wco t kd (wst t v i) 1 v))) 32 2 (nI (wco t kd (wst t v i) 2 v)), ?_, ?_, ?_, ?_⟩
  · rw [e87_0, s57 v hc hi, zbI_some, p1, zbV_some, show (0 : Int32) = nI 0 from rfl, st P 0 _ _ (by omega) hkP p3, st _ 1 _ _ (by omega) k1 l1, st _ 2 _ _ (by omega) (zRo_p (by omega) k1) (wLk_p l1 (by omega)), e87_20, if_neg (by decide)]
  · intro j h1 h2 h3
    rw [zput_ne h3, zput_ne h3, zput_ne h3, p2 j h1 h2]
  · exact wLk_p (wLk_p l1 (by omega)) (by omega)
  · intro m hm
    rcases m with _ | _ | _ | m
    · simp [zput]
    · simp [zput]
    · simp [zput]
    · omega
theorem wjc_min {kd a b : Nat} (ha : a ≤ 100) (hb : wSm 2000 b) : min (wjn kd a b) 1000000 = wjc kd a b := by
  have h1 := wjn_le kd a b
  have h2 := wjn_ge kd a b
  unfold wSm at hb
  unfold wjc
  split <;> omega
theorem s89 {kd a b : Nat} (hkd : kd ≤ 3) (ha : a ≤ 100) (hb : wSm 2000 b) : zden (L + 1) 89 0 [some (.int (nI kd)), some (.int (nI a)), some (.int (nI b)), none] [] M = some (some (.int (nI (wjc kd a b))), M) := by
  have hbl := wSm_lt hb (by omega)
  have fin : ∀ x, x = wjn kd a b → zden (L + 1) 89 16 [some (.int (nI kd)), some (.int (nI a)), some (.int (nI b)), none] [.int (nI x)] M = some (some (.int (nI (wjc kd a b))), M) := by
    intro x hx
    have h1 := wjn_le kd a b
    rw [e89_16, s38, zbI_some, show (1000000 : Int32) = nI 1000000 from rfl, nI_min (by omega) (by omega), hx, wjc_min ha hb]
  rw [e89_0]
  by_cases h3 : kd = 3
  · rw [if_pos (show nI kd = 3 by rw [h3]; rfl), s13, zbI_some, nI_max (by omega) (by omega)]
    exact fin _ (by unfold wjn; rw [if_pos h3])
  · rw [if_neg (show ¬ nI kd = 3 from fun q => h3 ((nI_eq (b := 3) (by omega) (by omega)).mp q)), nI_add]
    exact fin _ (by unfold wjn; rw [if_neg h3])
theorem s90 {kd i m k : Nat} {v : Int32} {g : Nat → Nat} (hb : zTb t) (hkd : kd ≤ 3) (hi : i < t 0) (hm3 : m < 3) (hk : k ≤ 99) (hcs : wCs M t kd (wst t v i) v) (hg : ∀ j, j ≤ k → M 30 j = nI (g j)) (hg2 : ∀ j, j ≤ k → wSm 2000 (g j)) : zden (L + 1) 90 0 [some (.ref 29), some (.int (nI m)), some (.int (nI k)), some (.int (nI kd)), none] [] M = some (some (.int (nI (wAf t kd v (wl0 t) i m k g))), M) := by
  have hs := wst_lt (v := v) hi
  have hfl := wff_le (m := m) (v := v) hb hs
  have hco := wco_le (kd := kd) (m := m) (v := v) hb hs
  rw [e90_0, s4_27, zbI_some, zrd_nI (by omega), if_pos hm3, (hcs.1 m hm3).1]
  unfold wAf
  by_cases hc : wcn t (wst t v i) m (wfo t (wst t v i) m v (wl0 t)) = true ∧ wfo t (wst t v i) m v (wl0 t) ≤ k
  · have e : wff t (wst t v i) m v = wfo t (wst t v i) m v (wl0 t) := by unfold wff; rw [if_pos hc.1]
    have hu := wup_le (a := wfo t (wst t v i) m v (wl0 t)) (b := 8) (by omega)
    rw [e, if_neg (nI_nlt (by omega) (by omega)), if_pos hc, s4_32, zbI_some, zrd_nI (by omega), if_pos hm3, hcs.2 m hm3, s67 (by omega), zbI_some, nI_sub (by omega), s4_30, zbI_some, zrd_nI (by omega), if_pos (by omega), hg _ (by omega), s89 hkd (by omega) (hg2 _ (by omega)), zbI_some]
  · have e : k < wff t (wst t v i) m v := by
      unfold wff
      split
      · rename_i hq
        exact Nat.lt_of_not_le fun q => hc ⟨hq, q⟩
      · omega
    rw [if_pos (nI_lt e (by omega)), if_neg hc]; rfl
theorem s91 {kd i k : Nat} {v : Int32} {g : Nat → Nat} (hb : zTb t) (hkd : kd ≤ 3) (hi : i < t 0) (hk : k ≤ 99) (hcs : wCs M t kd (wst t v i) v) (hg : ∀ j, j ≤ k → M 30 j = nI (g j)) (hg2 : ∀ j, j ≤ k → wSm 2000 (g j)) : zden (L + 1) 91 0 [some (.ref 29), some (.int (nI k)), some (.int (nI kd)), none, none] [] M = some (some (.int (nI (wBf t kd v (wl0 t) i k g))), M) := by
  have st : ∀ m x, m < 3 → x ≤ 1000000 → zden (L + 1) 91 6 [some (.ref 29), some (.int (nI k)), some (.int (nI kd)), some (.int (nI x)), some (.int (nI m))] [] M = zden (L + 1) 91 6 [some (.ref 29), some (.int (nI k)), some (.int (nI kd)), some (.int (nI (min x (wAf t kd v (wl0 t) i m k g)))), some (.int (nI (m + 1)))] [] M := by
    intro m x hm hx
    have hle := wAf_le (kd := kd) (l := wl0 t) (m := m) (v := v) hb hi hg2
    rw [e91_6, if_pos (show nI m < 3 from nI_lt (b := 3) hm (by omega)), s90 hb hkd hi hm hk hcs hg hg2, zbI_some, s38, zbI_some, nI_min (by omega) (by omega), nI_1]
  rw [e91_0, show (1000000 : Int32) = nI 1000000 from rfl, show (0 : Int32) = nI 0 from rfl, st 0 _ (by omega) (by omega), st 1 _ (by omega) (by omega), st 2 _ (by omega) (by omega), e91_6, if_neg (by decide)]
  rfl
theorem s88 {kd : Nat} (hb : zTb t) (hc : zTc M 1 t) (hkd : kd ≤ 3) : zden (L + 1) 88 0 [some (.ref 29), some (.int (nI kd))] [] M = some (some (.int (nI (wcr t kd))), M) := by
  rw [e88_0]
  unfold wcr
  by_cases h0 : kd = 0
  · rw [if_pos (show nI kd = 0 by rw [h0]; rfl), if_pos h0, e88_28, s0_8, zbI_some, show M 4 8 = nI (t 12) from hc.2.1 8 (by omega)]
  · rw [if_neg (nI_ne0 (by omega) (by omega)), if_neg h0]
    by_cases h2 : kd = 2
    · rw [if_pos (show nI kd = 2 by rw [h2]; rfl), if_pos h2, e88_38]; rfl
    · rw [if_neg (show ¬ nI kd = 2 from fun q => h2 ((nI_eq (b := 2) (by omega) (by omega)).mp q)), if_neg h2, e88_40]; rfl
def wFr (P M : zM) : Prop := ∀ j, j ≠ 27 → j ≠ 28 → j ≠ 30 → j ≠ 31 → j ≠ 32 → P j = M j
theorem zTc_fr {P : zM} (h : wFr P M) (hc : zTc M 1 t) : zTc P 1 t := zTc_c hc (h 1 (by omega) (by omega) (by omega) (by omega) (by omega)) fun k h1 h2 => h (1 + k) (by omega) (by omega) (by omega) (by omega) (by omega)
theorem zRo_fr {P : zM} (h : wFr P M) (hk : zRo M) : zRo P := zRo_of hk fun j hj => h j (zn62 hj (by omega)) (zn62 hj (by omega)) (zn62 hj (by omega)) (zn62 hj (by omega)) (zn62 hj (by omega))
theorem s92_k {kd i d : Nat} {v : Int32} (hb : zTb t) (hkd : kd ≤ 3) (hi1 : 0 < i) (hid : i + d = t 0 - 1) : ∀ q k, q + k = t 11 + 1 → ∀ (P : zM), wFr P M → wCs P t kd (wst t v i) v → (∀ j, j ≤ t 11 → P 30 j = nI (wLv t kd v (wl0 t) d j)) → (∀ j, j < k → P 31 j = nI (wLv t kd v (wl0 t) (d + 1) j)) → ∃ P', zden (L + 1) 92 62 [some (.ref 29), some (.int (nI kd)), some (.int v), some (.int (nI (t 11))), some (.int (nI i)), some (.int (nI (wjc kd (wcr t kd) (wBf t kd v (wl0 t) i (t 11) (wLv t kd v (wl0 t) d))))), some (.int (nI k))] [] P = zden (L + 1) 92 29 [some (.ref 29), some (.int (nI kd)), some (.int v), some (.int (nI (t 11))), some (.int (nI (i - 1))), some (.int (nI (wjc kd (wcr t kd) (wBf t kd v (wl0 t) i (t 11) (wLv t kd v (wl0 t) d))))), some (.int (nI (t 11 + 1)))] [] P' ∧ wFr P' M ∧ ∀ j, j ≤ t 11 → P' 30 j = nI (wLv t kd v (wl0 t) (d + 1) j) := by
  have h12 : t 0 ≤ 12 := hb.1.2.1
  have hst := wSt hb
  have hit : i < t 0 := by omega
  have hie : t 0 - 1 - d = i := by omega
  intro q
  induction q with
  | zero =>
    intro k hk P hP hcs h1 h2
    have hkk : k = t 11 + 1 := by omega
    subst hkk
    refine ⟨zcp2 P 31 0 30 0 100, ?_, fun j a b c d' e => by rw [zcp2_row P c, hP j a b c d' e], fun j hj => ?_⟩
    · obtain ⟨i', rfl⟩ : ∃ i', i = i' + 1 := ⟨i - 1, by omega⟩
      rw [e92_62, if_pos (nI_lt (by omega) (by omega)), s31_31_30, zbV_some, nI_dn]
      rfl
    · rw [zcp2_in P (by omega) (by omega), show 0 + (j - 0) = j by omega, h2 j (by omega)]
  | succ q ih =>
    intro k hk P hP hcs h1 h2
    have hg2 : ∀ j, wSm 2000 (wLv t kd v (wl0 t) d j) := fun j => wLv_2000 hb (by omega) j
    have hle := wSm_lt (wBf_sm (kd := kd) (l := wl0 t) (k := k) (v := v) hb hit (by omega) (fun j _ => hg2 j)) (by omega)
    have hfs := wBf_sm (kd := kd) (l := wl0 t) (k := t 11) (v := v) hb hit (by omega) (fun j _ => hg2 j)
    have hR := wSm_lt (wjc_sm (kd := kd) (wcr_le (kd := kd) hb) hfs) (by omega)
    have hv : wLv t kd v (wl0 t) (d + 1) k = min (wBf t kd v (wl0 t) i k (wLv t kd v (wl0 t) d)) (wjc kd (wcr t kd) (wBf t kd v (wl0 t) i (t 11) (wLv t kd v (wl0 t) d))) := by
      show min (wBf t kd v (wl0 t) (t 0 - 1 - d) k _) (wjc kd (wcr t kd) (wBf t kd v (wl0 t) (t 0 - 1 - d) (t 11) _)) = _
      rw [hie]
    obtain ⟨P', g1, g2, g3⟩ := ih (k + 1) (by omega) (zput P 31 k (nI (wLv t kd v (wl0 t) (d + 1) k))) (fun j a b c d' e => by rw [zput_ne d', hP j a b c d' e]) ⟨wLk_p hcs.1 (by omega), fun m hm => by rw [zput_ne (by omega)]; exact hcs.2 m hm⟩ (fun j hj => by rw [zput_ne (by omega), h1 j hj]) (fun j hj => by
      by_cases e : j = k
      · rw [e, zput_at]
      · rw [zput_o _ _ (Or.inr (by omega)), h2 j (by omega)])
    refine ⟨P', ?_, g2, g3⟩
    rw [← g1, e92_62, if_neg (nI_nlt (by omega) (by omega)), s91 hb hkd hit (by omega) hcs (fun j hj => h1 j (by omega)) (fun j _ => hg2 j), zbI_some, s38, zbI_some, nI_min (by omega) (by omega), s5_31, zbV_some, zwr_nI (by omega) (by omega), nI_1, hv, Nat.min_comm]
theorem s92_i {kd : Nat} {v : Int32} (hb : zTb t) (hc : zTc M 1 t) (hk : zRo M) (hkd : kd ≤ 3) : ∀ i d, i + d = t 0 - 1 → ∀ (P : zM) (o5 o6 : Option Value), wFr P M → (∀ j, j ≤ t 11 → P 30 j = nI (wLv t kd v (wl0 t) d j)) → ∃ P', zden (L + 1) 92 29 [some (.ref 29), some (.int (nI kd)), some (.int v), some (.int (nI (t 11))), some (.int (nI i)), o5, o6] [] P = some (some (.int (nI (wBe t kd v (wl0 t)))), P') ∧ wFr P' M ∧ wCs P' t kd (wst t v 0) v ∧ ∀ j, j ≤ t 11 → P' 30 j = nI (wLv t kd v (wl0 t) (t 0 - 1) j) := by
  have h12 : t 0 ≤ 12 := hb.1.2.1
  have h1t : 1 ≤ t 0 := hb.1.1
  have hst := wSt hb
  intro i
  induction i with
  | zero =>
    intro d hd P o5 o6 hP h1
    have hdd : d = t 0 - 1 := by omega
    subst hdd
    have hg2 : ∀ j, wSm 2000 (wLv t kd v (wl0 t) (t 0 - 1) j) := fun j => wLv_2000 hb (by omega) j
    obtain ⟨Q, q1, q2, q3⟩ := s87 (L := L) (v := v) hb (zTc_fr hP hc) (zRo_fr hP hk) hkd (show 0 < t 0 by omega)
    have h30 : ∀ j, j ≤ t 11 → Q 30 j = nI (wLv t kd v (wl0 t) (t 0 - 1) j) := fun j hj => by rw [q2 30 (by omega) (by omega) (by omega), h1 j hj]
    refine ⟨Q, ?_, fun j a b c d' e => by rw [q2 j a b e, hP j a b c d' e], q3, h30⟩
    rw [e92_29, if_neg (by decide), show (0 : Int32) = nI 0 from rfl, q1, zbV_some, s91 hb hkd (by omega) (by omega) q3 h30 (fun j _ => hg2 j), zbI_some]
    rfl
  | succ i ih =>
    intro d hd P o5 o6 hP h1
    have hit : i + 1 < t 0 := by omega
    have hg2 : ∀ j, wSm 2000 (wLv t kd v (wl0 t) d j) := fun j => wLv_2000 hb (by omega) j
    obtain ⟨Q, q1, q2, q3⟩ := s87 (L := L) (v := v) hb (zTc_fr hP hc) (zRo_fr hP hk) hkd hit
    have hQ : wFr Q M := fun j a b c d' e => by rw [q2 j a b e, hP j a b c d' e]
    have h30 : ∀ j, j ≤ t 11 → Q 30 j = nI (wLv t kd v (wl0 t) d j) := fun j hj => by rw [q2 30 (by omega) (by omega) (by omega), h1 j hj]
    have hfs := wBf_sm (kd := kd) (l := wl0 t) (k := t 11) (v := v) hb hit (by omega) (fun j _ => hg2 j)
    have hcr := wcr_le (kd := kd) hb
    have hfs2 : wSm 2000 (wBf t kd v (wl0 t) (i + 1) (t 11) (wLv t kd v (wl0 t) d)) := wSm_le (wBf_sm hb hit (by omega) (fun j _ => wLv_sm hb d (by omega) j)) (by omega)
    obtain ⟨P1, g1, g2, g3⟩ := s92_k (L := L) (M := M) (kd := kd) (i := i + 1) (d := d) (v := v) hb hkd (by omega) hd (t 11 + 1) 0 (by omega) Q hQ q3 h30 (fun j hj => by omega)
    obtain ⟨P2, r1, r2, r3⟩ := ih (d + 1) (by omega) P1 (some (.int (nI (wjc kd (wcr t kd) (wBf t kd v (wl0 t) (i + 1) (t 11) (wLv t kd v (wl0 t) d)))))) (some (.int (nI (t 11 + 1)))) g2 g3
    refine ⟨P2, ?_, r2, r3⟩
    rw [show i + 1 - 1 = i by omega] at g1
    rw [← r1, ← g1, e92_29, if_pos (show (0 : Int32) < nI (i + 1) from nI_lt (a := 0) (by omega) (by omega)), q1, zbV_some, s88 hb (zTc_fr hQ hc) hkd, zbI_some, s91 hb hkd hit (by omega) q3 h30 (fun j _ => hg2 j), zbI_some, s89 hkd (by omega) hfs2, zbI_some]
    rfl
theorem s92 {kd : Nat} {v : Int32} (hb : zTb t) (hc : zTc M 1 t) (hk : zRo M) (hkd : kd ≤ 3) : ∃ P', zden (L + 1) 92 0 [some (.ref 29), some (.int (nI kd)), some (.int v), none, none, none, none] [] M = some (some (.int (nI (wBe t kd v (wl0 t)))), P') ∧ wFr P' M ∧ wCs P' t kd (wst t v 0) v ∧ ∀ j, j ≤ t 11 → P' 30 j = nI (wLv t kd v (wl0 t) (t 0 - 1) j) := by
  have h1t : 1 ≤ t 0 := hb.1.1
  have hst := wSt hb
  obtain ⟨P', g1, g2⟩ := s92_i (L := L) (v := v) hb hc hk hkd (t 0 - 1) 0 (by omega) (zfl M 30 100 0) none none (fun j a b c d e => zfl_row M c) (fun j hj => by rw [zfl_in _ (by omega)]; rfl)
  refine ⟨P', ?_, g2⟩
  rw [e92_0, s0_7, zbI_some, s19_30, zbV_some, show M 4 7 = nI (t 11) from hc.2.1 7 (by omega), zfl_row M (by decide), hc.1.1, show nI (t 0) - 1 = nI (t 0 - 1) from nI_sub (b := 1) h1t, g1]
end KB
