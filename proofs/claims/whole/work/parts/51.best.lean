/-- the whole stair: what joins, what costs, the least from a step on -/
def wjn (kd a b : Nat) : Nat := if kd = 3 then max a b else a + b
def wjc (kd a b : Nat) : Nat := if b = 1000000 then 1000000 else wjn kd a b
def wco (t : Nat → Nat) (kd s m : Nat) (v : Int32) : Nat := if kd = 0 then wbe m else if kd = 2 then 0 else wbu t s m v
def wcr (t : Nat → Nat) (kd : Nat) : Nat := if kd = 0 then t 12 else if kd = 2 then 1 else 0
def wAf (t : Nat → Nat) (kd : Nat) (v : Int32) (l i m k : Nat) (g : Nat → Nat) : Nat :=
  if wcn t (wst t v i) m (wfo t (wst t v i) m v l) = true ∧ wfo t (wst t v i) m v l ≤ k then wjc kd (wco t kd (wst t v i) m v) (g (k - wup (wfo t (wst t v i) m v l) 8)) else 1000000
def wBf (t : Nat → Nat) (kd : Nat) (v : Int32) (l i k : Nat) (g : Nat → Nat) : Nat := min (min (min 1000000 (wAf t kd v l i 0 k g)) (wAf t kd v l i 1 k g)) (wAf t kd v l i 2 k g)
def wLv (t : Nat → Nat) (kd : Nat) (v : Int32) (l : Nat) : Nat → Nat → Nat
  | 0 => fun _ => 0
  | d + 1 => fun k => min (wBf t kd v l (t 0 - 1 - d) k (wLv t kd v l d)) (wjc kd (wcr t kd) (wBf t kd v l (t 0 - 1 - d) (t 11) (wLv t kd v l d)))
def wBe (t : Nat → Nat) (kd : Nat) (v : Int32) (l : Nat) : Nat := wBf t kd v l 0 (t 11) (wLv t kd v l (t 0 - 1))
def wSm (c x : Nat) : Prop := x = 1000000 ∨ x ≤ c
theorem wSm_le {c d x : Nat} (h : wSm c x) (hd : c ≤ d) : wSm d x := by unfold wSm at *; omega
theorem wSm_min {c x y : Nat} (hc : c ≤ 1000000) (hx : wSm c x) (hy : wSm c y) : wSm c (min x y) := by unfold wSm at *; omega
theorem wjn_le (kd a b : Nat) : wjn kd a b ≤ a + b := by unfold wjn; split <;> omega
theorem wjn_ge (kd a b : Nat) : b ≤ wjn kd a b := by unfold wjn; split <;> omega
theorem wjc_sm {kd a b c e : Nat} (ha : a ≤ e) (hb : wSm c b) : wSm (c + e) (wjc kd a b) := by
  have := wjn_le kd a b
  unfold wSm wjc at *
  split <;> omega
theorem wjc_ge {kd a b : Nat} : b ≤ wjc kd a b := by
  have := wjn_ge kd a b
  unfold wjc; split <;> omega
theorem wco_le {t : Nat → Nat} {kd s m : Nat} {v : Int32} (hb : zTb t) (hs : s < t 0) : wco t kd s m v ≤ 60 := by
  have h1 := wbe_le m
  have h2 := wbu_le (m := m) (v := v) hb hs
  unfold wco
  split
  · omega
  · split <;> omega
theorem wcr_le {t : Nat → Nat} {kd : Nat} (hb : zTb t) : wcr t kd ≤ 99 := by
  have h1 := hb.2.1
  unfold wcr
  split
  · omega
  · split <;> omega
theorem wAf_sm {t : Nat → Nat} {kd l i m k c : Nat} {v : Int32} {g : Nat → Nat} (hb : zTb t) (hi : i < t 0) (hg : ∀ j, j ≤ k → wSm c (g j)) : wSm (c + 60) (wAf t kd v l i m k g) := by
  unfold wAf
  split
  · exact wjc_sm (wco_le hb (wst_lt hi)) (hg _ (by omega))
  · exact Or.inl rfl
theorem wBf_sm {t : Nat → Nat} {kd l i k c : Nat} {v : Int32} {g : Nat → Nat} (hb : zTb t) (hi : i < t 0) (hc : c + 60 ≤ 1000000) (hg : ∀ j, j ≤ k → wSm c (g j)) : wSm (c + 60) (wBf t kd v l i k g) := by
  unfold wBf
  exact wSm_min hc (wSm_min hc (wSm_min hc (Or.inl rfl) (wAf_sm hb hi hg)) (wAf_sm hb hi hg)) (wAf_sm hb hi hg)
theorem wLv_sm {t : Nat → Nat} {kd l : Nat} {v : Int32} (hb : zTb t) : ∀ d, d < t 0 → ∀ k, wSm (160 * d) (wLv t kd v l d k)
  | 0, _, k => Or.inr (Nat.zero_le _)
  | d + 1, hd, k => by
    have h12 : t 0 ≤ 12 := hb.1.2.1
    have ih := wLv_sm (kd := kd) (l := l) (v := v) hb d (by omega)
    have h1 := wBf_sm (kd := kd) (l := l) (i := t 0 - 1 - d) (k := k) (v := v) hb (by omega) (by omega) (fun j _ => ih j)
    have h2 := wBf_sm (kd := kd) (l := l) (i := t 0 - 1 - d) (k := t 11) (v := v) hb (by omega) (by omega) (fun j _ => ih j)
    have h3 := wjc_sm (kd := kd) (wcr_le (kd := kd) hb) h2
    exact wSm_min (by omega) (wSm_le h1 (by omega)) (wSm_le h3 (by omega))
theorem wLv_2000 {t : Nat → Nat} {kd l : Nat} {v : Int32} (hb : zTb t) {d : Nat} (hd : d < t 0) (k : Nat) : wSm 2000 (wLv t kd v l d k) := by
  have h12 : t 0 ≤ 12 := hb.1.2.1
  exact wSm_le (wLv_sm hb d hd k) (by omega)
theorem wSm_lt {c x : Nat} (h : wSm c x) (hc : c ≤ 1000000) : x ≤ 1000000 := by unfold wSm at h; omega
theorem wSt {t : Nat → Nat} (hb : zTb t) : 1 ≤ t 11 ∧ t 11 ≤ 99 := by have := hb.2.1; omega
theorem nI_dn (n : Nat) : nI (n + 1) + (-1) = nI n := by
  rw [← nI_1, Int32.add_assoc, show (1 : Int32) + (-1) = 0 by decide, Int32.add_zero]
section KB
variable {L : Nat} {ro M : zM} {t : Nat → Nat}
theorem s189 {kd a b : Nat} (hk : kd ≤ 3) (ha : a < 2 ^ 31) (hb : b < 2 ^ 31) : zden (L + 1) 189 0 [some (.int (nI kd)), some (.int (nI a)), some (.int (nI b))] [] M = some (some (.int (nI (wjn kd a b))), M) := by
  rw [e189_0]
  unfold wjn
  by_cases h3 : kd = 3
  · subst h3
    rw [if_pos (show nI 3 = 3 from rfl), if_pos rfl]
    by_cases h : b < a
    · rw [if_pos (nI_lt h ha), e189_21, Nat.max_eq_left (by omega)]
    · rw [if_neg (nI_nlt (by omega) (by omega)), e189_21, Nat.max_eq_right (by omega)]
  · rw [if_neg (show ¬ nI kd = 3 from fun q => h3 ((nI_eq (b := 3) (by omega) (by omega)).mp q)), if_neg h3, e189_21, nI_add]
theorem s190 {kd i m k l : Nat} {v : Int32} {g : Nat → Nat} (hb : zTb t) (hm : zTm M 49 t) (hkd : kd ≤ 3) (hi : i < t 0) (hm3 : m < 3) (hk : k ≤ 99) (hl : l ≤ 180) (hg : ∀ j, j ≤ k → M 58 (100 * (i + 1) + j) = nI (g j)) (hg2 : ∀ j, j ≤ k → wSm 2000 (g j)) : zden (L + 1) 190 0 [some (.ref 48), some (.int (nI kd)), some (.int (nI i)), some (.int (nI m)), some (.int (nI k)), some (.int v), some (.int (nI l)), none, none, none, none] [] M = some (some (.int (nI (wAf t kd v l i m k g))), M) := by
  have h12 : t 0 ≤ 12 := hb.1.2.1
  have hs := wst_lt (v := v) hi
  have hf := wfo_le (m := m) (v := v) hb hs hl
  rw [e190_0, s178 v hm hi, zbI_some, s173 v hb hm hs hm3 hl, zbI_some]
  unfold wAf
  by_cases hc : wcn t (wst t v i) m (wfo t (wst t v i) m v l) = true
  · have e : wfm t (wst t v i) m v l = nI (wfo t (wst t v i) m v l) := by unfold wfm; rw [if_pos hc]
    rw [e, if_neg (nI_pos (by omega))]
    by_cases h1 : wfo t (wst t v i) m v l ≤ k
    · have hu := wup_le (a := wfo t (wst t v i) m v l) (b := 8) (by omega)
      rw [if_neg (nI_nlt (by omega) (by omega)), if_pos (show _ ∧ _ from ⟨hc, h1⟩)]
      have hq := hg2 (k - wup (wfo t (wst t v i) m v l) 8) (by omega)
      have hq2 := hg (k - wup (wfo t (wst t v i) m v l) 8) (by omega)
      have hql := wSm_lt hq (by omega)
      have key : ∀ c, c ≤ 60 → zden (L + 1) 190 66 [some (.ref 48), some (.int (nI kd)), some (.int (nI i)), some (.int (nI m)), some (.int (nI k)), some (.int v), some (.int (nI l)), some (.int (nI (wst t v i))), some (.int (nI (wfo t (wst t v i) m v l))), none, none] [.int (nI c)] M = some (some (.int (nI (wjc kd c (g (k - wup (wfo t (wst t v i) m v l) 8))))), M) := by
        intro c hc60
        rw [e190_66, show (8 : Int32) = nI 8 from rfl, s172 (by omega) (by omega), zbI_some, show (100 : Int32) = nI 100 from rfl, nI_1, nI_mul, nI_add, nI_sub (by omega), if_pos ((zinb_nI (by omega)).mpr (by omega)), nI_clamp (by omega), show 100 * (i + 1) + k - wup (wfo t (wst t v i) m v l) 8 = 100 * (i + 1) + (k - wup (wfo t (wst t v i) m v l) 8) by omega, hq2]
        unfold wjc
        by_cases hM : g (k - wup (wfo t (wst t v i) m v l) 8) = 1000000
        · rw [hM, if_pos (show nI 1000000 = 1000000 from rfl), if_pos rfl, e190_112]; rfl
        · rw [if_neg (show ¬ nI (g (k - wup (wfo t (wst t v i) m v l) 8)) = 1000000 from fun q => hM ((nI_eq (b := 1000000) (by omega) (by omega)).mp q)), if_neg hM, s189 hkd (by omega) (by omega), zbI_some, e190_112]
      have hco := wco_le (kd := kd) (m := m) (v := v) hb hs
      have k2 := key (wco t kd (wst t v i) m v) hco
      rw [← k2]
      unfold wco
      by_cases k0 : kd = 0
      · subst k0
        rw [if_pos (show nI 0 = 0 from rfl), s175 hm3, zbI_some, if_pos rfl]
      · rw [if_neg (nI_ne0 (by omega) (by omega)), if_neg k0]
        by_cases k2 : kd = 2
        · subst k2
          rw [if_pos (show nI 2 = 2 from rfl), if_pos rfl]; rfl
        · rw [if_neg (show ¬ nI kd = 2 from fun q => k2 ((nI_eq (b := 2) (by omega) (by omega)).mp q)), if_neg k2, s174 v hb hm hs hm3, zbI_some]
    · rw [if_pos (nI_lt (by omega) (by omega)), if_neg (show ¬ (_ ∧ _) from fun q => h1 q.2), e190_34]; rfl
  · have e : wfm t (wst t v i) m v l = -1 := by unfold wfm; rw [if_neg hc]
    rw [e, if_pos (by decide), if_neg (show ¬ (_ ∧ _) from fun q => hc q.1), e190_34]; rfl
theorem wAf_le {kd l i m k : Nat} {v : Int32} {g : Nat → Nat} (hb : zTb t) (hi : i < t 0) (hg2 : ∀ j, j ≤ k → wSm 2000 (g j)) : wAf t kd v l i m k g ≤ 1000000 := wSm_lt (wAf_sm hb hi hg2) (by omega)
theorem s191 {kd i k l : Nat} {v : Int32} {g : Nat → Nat} (hb : zTb t) (hm : zTm M 49 t) (hkd : kd ≤ 3) (hi : i < t 0) (hk : k ≤ 99) (hl : l ≤ 180) (hg : ∀ j, j ≤ k → M 58 (100 * (i + 1) + j) = nI (g j)) (hg2 : ∀ j, j ≤ k → wSm 2000 (g j)) : zden (L + 1) 191 0 [some (.ref 48), some (.int (nI kd)), some (.int (nI i)), some (.int (nI k)), some (.int v), some (.int (nI l)), none, none, none] [] M = some (some (.int (nI (wBf t kd v l i k g))), M) := by
  have st : ∀ (m x : Nat) (o : Option Value), m < 3 → x ≤ 1000000 → zden (L + 1) 191 7 [some (.ref 48), some (.int (nI kd)), some (.int (nI i)), some (.int (nI k)), some (.int v), some (.int (nI l)), some (.int (nI x)), some (.int (nI m)), o] [] M = zden (L + 1) 191 7 [some (.ref 48), some (.int (nI kd)), some (.int (nI i)), some (.int (nI k)), some (.int v), some (.int (nI l)), some (.int (nI (min x (wAf t kd v l i m k g)))), some (.int (nI (m + 1))), some (.int (nI (wAf t kd v l i m k g)))] [] M := by
    intro m x o hm3 hx
    have hle := wAf_le (kd := kd) (l := l) (m := m) (v := v) hb hi hg2
    rw [e191_7, if_pos (show nI m < 3 from nI_lt (b := 3) hm3 (by omega)), s190 hb hm hkd hi hm3 hk hl hg hg2, zbI_some]
    by_cases h : wAf t kd v l i m k g < x
    · rw [if_pos (nI_lt h (by omega)), e191_42, nI_1, Nat.min_eq_right (by omega)]
    · rw [if_neg (nI_nlt (by omega) (by omega)), e191_42, nI_1, Nat.min_eq_left (by omega)]
  rw [e191_0, show (1000000 : Int32) = nI 1000000 from rfl, show (0 : Int32) = nI 0 from rfl, st 0 _ _ (by omega) (by omega), st 1 _ _ (by omega) (by omega), st 2 _ _ (by omega) (by omega), e191_7, if_neg (by decide)]
  rfl
end KB
