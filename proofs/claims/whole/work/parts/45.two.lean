theorem nI_max {a b : Nat} (ha : a < 2 ^ 31) (hb : b < 2 ^ 31) : (if nI a < nI b then nI b else nI a) = nI (max a b) := by
  by_cases h : a < b
  · rw [if_pos (nI_lt h hb), Nat.max_eq_right (by omega)]
  · rw [if_neg (nI_nlt (by omega) ha), Nat.max_eq_left (by omega)]
theorem nI_min {a b : Nat} (ha : a < 2 ^ 31) (hb : b < 2 ^ 31) : (if nI b < nI a then nI b else nI a) = nI (min a b) := by
  by_cases h : b < a
  · rw [if_pos (nI_lt h ha), Nat.min_eq_right (by omega)]
  · rw [if_neg (nI_nlt (by omega) hb), Nat.min_eq_left (by omega)]
/-- what is borne below -/
def wbl (t : Nat → Nat) (s l : Nat) : Nat := min l (wup (l * (t (28 + s) + t (16 + s))) (2 * t (28 + s)))
/-- strain at a step: e = 0 the helper below -/
def wse (t : Nat → Nat) (h l e s : Nat) : Nat := max (wup (100 * (if e = 0 then wbl t s l else l - wbl t s l)) (t (40 + h))) (wup (100 * (if e = 0 then l - wbl t s l else wbl t s l)) (t 11))
def wsl (t : Nat → Nat) (h l e : Nat) : Nat → Nat → Nat → Nat
  | 0, _, g => g
  | d + 1, k, g => wsl t h l e d (k + 1) (max g (wse t h l e k))
def wsn (t : Nat → Nat) (h e : Nat) : Nat := wsl t h (t 5 + t 7 + t 8) e (t 0) 0 0
theorem wbl_le (t : Nat → Nat) (s l : Nat) : wbl t s l ≤ l := Nat.min_le_left _ _
theorem wse_le {t : Nat → Nat} {h l e s : Nat} (hl : l ≤ 140) (h40 : 0 < t (40 + h)) (h11 : 0 < t 11) : wse t h l e s ≤ 14000 := by
  have h1 := wbl_le t s l
  unfold wse
  have a := wup_le (a := 100 * (if e = 0 then wbl t s l else l - wbl t s l)) h40
  have b := wup_le (a := 100 * (if e = 0 then l - wbl t s l else wbl t s l)) h11
  have c : (if e = 0 then wbl t s l else l - wbl t s l) ≤ 140 := by split <;> omega
  have d : (if e = 0 then l - wbl t s l else wbl t s l) ≤ 140 := by split <;> omega
  omega
theorem wsl_le {t : Nat → Nat} {h l e : Nat} (hl : l ≤ 140) (h40 : 0 < t (40 + h)) (h11 : 0 < t 11) : ∀ d k g, g ≤ 14000 → wsl t h l e d k g ≤ 14000
  | 0, _, g, hg => hg
  | d + 1, k, g, hg => wsl_le hl h40 h11 d (k + 1) _ (by have := wse_le (e := e) (s := k) hl h40 h11; omega)
section KT
variable {L : Nat} {ro M : zM} {t : Nat → Nat}
theorem s79 {s l : Nat} (hb : zTb t) (hc : zTc M 1 t) (hs : s < t 0) (hl : l ≤ 140) : zden (L + 1) 79 0 [some (.ref 35), some (.int (nI s)), some (.int (nI l)), none] [] M = some (some (.int (nI (wbl t s l))), M) := by
  have h12 := zlt_hi hb hs
  have hd := hb.2.2.1 s hs
  have h4 : l * (t (28 + s) + t (16 + s)) ≤ 140 * 90 := Nat.mul_le_mul hl (by omega)
  have h5 := wup_le (a := l * (t (28 + s) + t (16 + s))) (b := 2 * t (28 + s)) (by omega)
  rw [e79_0, s4_3, zbI_some, zrd_nI (by omega), if_pos h12, (hc.2.2.1 s hs).2, s4_2, zbI_some, zrd_nI (by omega), if_pos h12, (hc.2.2.1 s hs).1, nI_add, nI_mul, show (2 : Int32) = nI 2 from rfl, nI_mul, nI_up (by omega) (by omega), zbI_some, s38, zbI_some, nI_min (by omega) (by omega)]
  rfl
theorem s80_l {h l e : Nat} {u : Int32} (he : e = if u = 0 then 1 else 0) (hb : zTb t) (hc : zTc M 1 t) (hh : h < t 1) (hl : l ≤ 140) : ∀ d k, d + k = t 0 → ∀ (g : Nat) (o1 o8 o9 o10 o11 : Option Value), g ≤ 14000 → zden (L + 1) 80 38 [some (.ref 35), o1, some (.int u), some (.int (nI (t (40 + h)))), some (.int (nI (t 11))), some (.int (nI l)), some (.int (nI g)), some (.int (nI k)), o8, o9, o10, o11] [] M = some (some (.int (nI (wsl t h l e d k g))), M) := by
  have h0 : t 0 ≤ 12 := hb.1.2.1
  have h40 := hb.2.2.2.1 h hh
  have h11 : 1 ≤ t 11 ∧ t 11 ≤ 99 := by have := hb.2.1; omega
  intro d
  induction d with
  | zero =>
    intro k hk g o1 o8 o9 o10 o11 hg
    have : k = t 0 := by omega
    rw [e80_38, hc.1.1, if_neg (nI_nlt (by omega) (by omega))]; rfl
  | succ d ih =>
    intro k hk g o1 o8 o9 o10 o11 hg
    have hbl := wbl_le t k l
    have hse := wse_le (t := t) (h := h) (e := e) (s := k) hl (by omega) (by omega)
    rw [e80_38, hc.1.1, if_pos (nI_lt (by omega) (by omega)), s79 hb hc (by omega) hl, zbI_some, nI_sub hbl, show (100 : Int32) = nI 100 from rfl, nI_mul]
    have hA := wup_le (a := 100 * wbl t k l) (b := t (40 + h)) (by omega)
    have hB := wup_le (a := 100 * (l - wbl t k l)) (b := t (40 + h)) (by omega)
    have hC := wup_le (a := 100 * wbl t k l) (b := t 11) (by omega)
    have hD := wup_le (a := 100 * (l - wbl t k l)) (b := t 11) (by omega)
    by_cases hu : u = 0
    · have he1 : e = 1 := by rw [he, if_pos hu]
      subst he1
      have hw : wse t h l 1 k = max (wup (100 * (l - wbl t k l)) (t (40 + h))) (wup (100 * wbl t k l) (t 11)) := rfl
      rw [if_pos hu, e80_82, nI_up (by omega) (by omega), zbI_some, if_pos hu, show (100 : Int32) = nI 100 from rfl, nI_mul, e80_102, nI_up (by omega) (by omega), zbI_some, s13, zbI_some, nI_max (by omega) (by omega), s13, zbI_some, nI_max (by omega) (by omega), nI_1, Nat.max_comm (wup (100 * wbl t k l) (t 11)), ← hw, ih (k + 1) (by omega) _ _ _ _ _ _ (by omega)]
      rfl
    · have he1 : e = 0 := by rw [he, if_neg hu]
      subst he1
      have hw : wse t h l 0 k = max (wup (100 * wbl t k l) (t (40 + h))) (wup (100 * (l - wbl t k l)) (t 11)) := rfl
      rw [if_neg hu, e80_82, nI_up (by omega) (by omega), zbI_some, if_neg hu, show (100 : Int32) = nI 100 from rfl, nI_mul, e80_102, nI_up (by omega) (by omega), zbI_some, s13, zbI_some, nI_max (by omega) (by omega), s13, zbI_some, nI_max (by omega) (by omega), nI_1, ← hw, ih (k + 1) (by omega) _ _ _ _ _ _ (by omega)]
      rfl
theorem s80 {h : Nat} (u : Int32) {e : Nat} (he : e = if u = 0 then 1 else 0) (hb : zTb t) (hc : zTc M 1 t) (hh : h < t 1) : zden (L + 1) 80 0 [some (.ref 35), some (.int (nI h)), some (.int u), none, none, none, none, none, none, none, none, none] [] M = some (some (.int (nI (wsn t h e))), M) := by
  have h1 : t 1 ≤ 4 := hb.1.2.2.1
  rw [e80_0, s4_5, zbI_some, zrd_nI (by omega), if_pos (by omega), (hc.2.2.2.1 h hh).1, s0_7, zbI_some, show M 4 7 = nI (t 11) from hc.2.1 7 (by omega), s58 hc, zbI_some, ← nI_0, s80_l he hb hc hh (wld hb) (t 0) 0 (by omega) 0 _ _ _ _ _ (by omega)]
  rfl
theorem s196_l {h l e : Nat} (he : e ≤ 1) (hb : zTb t) (hm : zTm M 49 t) (hh : h < t 1) (hl : l ≤ 140) : ∀ d k, d + k = t 0 → ∀ (g : Nat) (o6 o7 o8 o9 : Option Value), g ≤ 14000 → zden (L + 1) 196 11 [some (.ref 48), some (.int (nI h)), some (.int (nI e)), some (.int (nI g)), some (.int (nI l)), some (.int (nI k)), o6, o7, o8, o9] [] M = some (some (.int (nI (wsl t h l e d k g))), M) := by
  have h0 : t 0 ≤ 12 := hb.1.2.1
  have h1 : t 1 ≤ 4 := hb.1.2.2.1
  have h40 := hb.2.2.2.1 h hh
  have h11 : 1 ≤ t 11 ∧ t 11 ≤ 99 := by have := hb.2.1; omega
  intro d
  induction d with
  | zero =>
    intro k hk g o6 o7 o8 o9 hg
    have : k = t 0 := by omega
    rw [e196_11, hm 0 (by omega), if_neg (nI_nlt (by omega) (by omega))]; rfl
  | succ d ih =>
    intro k hk g o6 o7 o8 o9 hg
    have hbl := wbl_le t k l
    have hd := hb.2.2.1 k (by omega)
    have h4 : l * (t (28 + k) + t (16 + k)) ≤ 140 * 90 := Nat.mul_le_mul hl (by omega)
    have h5 := wup_le (a := l * (t (28 + k) + t (16 + k))) (b := 2 * t (28 + k)) (by omega)
    have hse := wse_le (t := t) (h := h) (e := e) (s := k) hl (by omega) (by omega)
    have tail : ∀ (x : Nat) (o6 o7 o8 o9 : Option Value), x ≤ l → max (wup (100 * x) (t (40 + h))) (wup (100 * (l - x)) (t 11)) = wse t h l e k → zden (L + 1) 196 93 [some (.ref 48), some (.int (nI h)), some (.int (nI e)), some (.int (nI g)), some (.int (nI l)), some (.int (nI k)), o6, o7, o8, o9] [.int (nI x)] M = some (some (.int (nI (wsl t h l e (d + 1) k g))), M) := by
      intro x o6 o7 o8 o9 hx hw
      have hA := wup_le (a := 100 * x) (b := t (40 + h)) (by omega)
      have hB := wup_le (a := 100 * (l - x)) (b := t 11) (by omega)
      have hq : ∀ (y : Nat) (o3 o6 o7 o8 : Option Value), y ≤ 14000 → max y (wup (100 * (l - x)) (t 11)) = max g (wse t h l e k) → zden (L + 1) 196 146 [some (.ref 48), some (.int (nI h)), some (.int (nI e)), o3, some (.int (nI l)), some (.int (nI k)), o6, o7, o8, some (.int (nI (wup (100 * (l - x)) (t 11))))] [.int (nI y)] M = some (some (.int (nI (wsl t h l e (d + 1) k g))), M) := by
        intro y o3 o6 o7 o8 hy hyw
        rw [e196_146]
        by_cases ha : y < wup (100 * (l - x)) (t 11)
        · rw [if_pos (nI_lt ha (by omega)), e196_159, nI_1, ih (k + 1) (by omega) _ _ _ _ _ (by omega), show wup (100 * (l - x)) (t 11) = max g (wse t h l e k) by omega]
          rfl
        · rw [if_neg (nI_nlt (by omega) (by omega)), e196_159, nI_1, ih (k + 1) (by omega) _ _ _ _ _ (by omega), show y = max g (wse t h l e k) by omega]
          rfl
      rw [e196_93, show (40 : Int32) + nI h = nI (40 + h) from nI_add 40 h, if_pos ((zinb_nI (by omega)).mpr (by omega)), nI_clamp (by omega), hm (40 + h) (by omega), nI_sub hx, show (100 : Int32) = nI 100 from rfl, nI_mul, nI_mul, s172 (by omega) (by omega), zbI_some, hm 11 (by omega), s172 (by omega) (by omega), zbI_some]
      by_cases ha : g < wup (100 * x) (t (40 + h))
      · rw [if_pos (nI_lt ha (by omega))]
        exact hq _ _ _ _ _ (by omega) (by omega)
      · rw [if_neg (nI_nlt (by omega) (by omega))]
        exact hq _ _ _ _ _ (by omega) (by omega)
    have mid : ∀ (o6 o7 o8 o9 : Option Value), zden (L + 1) 196 77 [some (.ref 48), some (.int (nI h)), some (.int (nI e)), some (.int (nI g)), some (.int (nI l)), some (.int (nI k)), o6, o7, o8, o9] [.int (nI (wbl t k l))] M = some (some (.int (nI (wsl t h l e (d + 1) k g))), M) := by
      intro o6 o7 o8 o9
      rw [e196_77]
      by_cases he0 : e = 0
      · subst he0
        rw [if_pos (show nI 0 = 0 from rfl)]
        exact tail _ _ _ _ _ hbl rfl
      · have he1 : e = 1 := by omega
        subst he1
        rw [if_neg (show ¬ nI 1 = 0 by decide), nI_sub hbl]
        exact tail _ _ _ _ _ (by omega) (by rw [show l - (l - wbl t k l) = wbl t k l by omega]; rfl)
    rw [e196_11, hm 0 (by omega), if_pos (nI_lt (by omega) (by omega)), show (28 : Int32) + nI k = nI (28 + k) from nI_add 28 k, show (16 : Int32) + nI k = nI (16 + k) from nI_add 16 k, if_pos ((zinb_nI (by omega)).mpr (by omega)), if_pos ((zinb_nI (by omega)).mpr (by omega)), if_pos ((zinb_nI (by omega)).mpr (by omega)), nI_clamp (by omega), nI_clamp (by omega), hm (28 + k) (by omega), hm (16 + k) (by omega), nI_add, nI_mul, show (2 : Int32) = nI 2 from rfl, nI_mul, s172 (by omega) (by omega), zbI_some]
    by_cases ha : wup (l * (t (28 + k) + t (16 + k))) (2 * t (28 + k)) < l
    · have e1 : wup (l * (t (28 + k) + t (16 + k))) (2 * t (28 + k)) = wbl t k l := by unfold wbl; omega
      rw [if_pos (nI_lt ha (by omega)), e1]
      exact mid _ _ _ _
    · have e1 : l = wbl t k l := by unfold wbl; omega
      rw [if_neg (nI_nlt (by omega) (by omega))]
      have := mid (some (.int (nI (wup (l * (t (28 + k) + t (16 + k))) (2 * t (28 + k)))))) o7 o8 o9
      rw [← e1] at this
      exact this
theorem s196 {h e : Nat} (he : e ≤ 1) (hb : zTb t) (hm : zTm M 49 t) (hh : h < t 1) : zden (L + 1) 196 0 [some (.ref 48), some (.int (nI h)), some (.int (nI e)), none, none, none, none, none, none, none] [] M = some (some (.int (nI (wsn t h e))), M) := by
  rw [e196_0, s163 hm, zbI_some, ← nI_0, s196_l he hb hm hh (wld hb) (t 0) 0 (by omega) 0 _ _ _ _ (by omega)]
  rfl
theorem wsn_le {h e : Nat} (hb : zTb t) (hh : h < t 1) : wsn t h e ≤ 14000 := by
  have h40 := hb.2.2.2.1 h hh
  have h11 : 1 ≤ t 11 ∧ t 11 ≤ 99 := by have := hb.2.1; omega
  exact wsl_le (wld hb) (by omega) (by omega) _ _ _ (by omega)
/-- the better end, and the strain then -/
def wen (t : Nat → Nat) (h : Nat) : Nat := if wsn t h 1 < wsn t h 0 then 1 else 0
theorem wen_min (t : Nat → Nat) (h : Nat) : wsn t h (wen t h) = min (wsn t h 0) (wsn t h 1) := by
  unfold wen
  split
  · rw [Nat.min_eq_right (by omega)]
  · rw [Nat.min_eq_left (by omega)]
theorem s81 {h : Nat} (hb : zTb t) (hc : zTc M 1 t) (hh : h < t 1) : zden (L + 1) 81 0 [some (.ref 35), some (.int (nI h))] [] M = some (some (.int (nI (wsn t h (wen t h)))), M) := by
  have a := wsn_le (e := 0) hb hh
  have b := wsn_le (e := 1) hb hh
  rw [e81_0, s80 1 (e := 0) rfl hb hc hh, zbI_some, s80 0 (e := 1) rfl hb hc hh, zbI_some, s38, zbI_some, nI_min (by omega) (by omega), wen_min]
theorem s82 {h : Nat} (hb : zTb t) (hc : zTc M 1 t) (hh : h < t 1) : zden (L + 1) 82 0 [some (.ref 35), some (.int (nI h))] [] M = some (some (.int (nI (wen t h))), M) := by
  have a := wsn_le (e := 0) hb hh
  have b := wsn_le (e := 1) hb hh
  rw [e82_0, s80 1 (e := 0) rfl hb hc hh, zbI_some, s80 0 (e := 1) rfl hb hc hh, zbI_some]
  unfold wen
  by_cases h1 : wsn t h 1 < wsn t h 0
  · rw [if_pos (nI_lt h1 (by omega)), if_pos h1, e82_20]; rfl
  · rw [if_neg (nI_nlt (by omega) (by omega)), if_neg h1, e82_20]; rfl
theorem s197 {h : Nat} (hb : zTb t) (hm : zTm M 49 t) (hh : h < t 1) : zden (L + 1) 197 0 [some (.ref 48), some (.int (nI h))] [] M = some (some (.int (nI (wen t h))), M) := by
  have a := wsn_le (e := 0) hb hh
  have b := wsn_le (e := 1) hb hh
  rw [e197_0, show (0 : Int32) = nI 0 from rfl, show (1 : Int32) = nI 1 from rfl, s196 (e := 0) (by omega) hb hm hh, zbI_some, s196 (e := 1) (by omega) hb hm hh, zbI_some]
  unfold wen
  by_cases h1 : wsn t h 1 < wsn t h 0
  · rw [if_pos (nI_lt h1 (by omega)), if_pos h1, e197_20]
  · rw [if_neg (nI_nlt (by omega) (by omega)), if_neg h1, e197_20]
theorem wen_le (t : Nat → Nat) (h : Nat) : wen t h ≤ 1 := by unfold wen; split <;> omega
theorem k_ends (a b : Int32) (hR : zRel M) (hro : ∀ i, zNW ≤ i → M i = ro i) : zSame L ro 117 198 [some (.ref 0), some (.int a), some (.int b), none] [some (.ref 48), some (.int a), some (.int b), none, none] M := by
  obtain ⟨t, hb, hc, hm, -⟩ := id hR
  have h0 : M 1 6 = nI (t 1) := hc.1.2.1
  have h0' : M 49 1 = nI (t 1) := hm 1 (by omega)
  have ht : t 1 ≤ 4 := hb.1.2.2.1
  rcases zrng_cases a 0 (nI (t 1) - 1) with ha | ha
  · rcases zrng_cases b 0 1 with hbb | hbb
    · obtain ⟨h, hh, rfl⟩ := zrng_cnt (by omega) ha
      obtain ⟨w, hw, rfl⟩ := zrng_nI (b := 1) (by omega) hbb
      have hle := wsn_le (e := wen t h) hb hh
      refine ⟨if 100 < wsn t h (wen t h) then -4 else if w = 0 then nI (wen t h) else nI (wsn t h (wen t h)), M, M, ?_, ?_, hR, hro⟩
      · rw [e117_0, h0, s46r, zbI_some, ha, if_neg (show ¬ zb true = 0 by decide), s46r, zbI_some, hbb, if_neg (show ¬ zb true = 0 by decide), s81 hb hc hh, zbI_some, show (100 : Int32) = nI 100 from rfl]
        by_cases h1 : 100 < wsn t h (wen t h)
        · rw [if_pos (nI_lt h1 (by omega)), if_pos h1]
        · rw [if_neg (nI_nlt (by omega) (by omega)), if_neg h1]
          by_cases hw0 : w = 0
          · subst hw0
            rw [if_neg (show ¬ nI 0 = 1 by decide), if_pos rfl, s82 hb hc hh, zbI_some, e117_63]
          · have : w = 1 := by omega
            subst this
            rw [if_pos (show nI 1 = 1 from rfl), if_neg (by decide), e117_63]
      · rw [e198_0, s165, zbI_some, h0', ha, if_neg (show ¬ zb true = 0 by decide), s161, zbI_some, hbb, if_neg (show ¬ zb true = 0 by decide), s197 hb hm hh, zbI_some, s196 (wen_le t h) hb hm hh, zbI_some, show (100 : Int32) = nI 100 from rfl]
        by_cases h1 : 100 < wsn t h (wen t h)
        · rw [if_pos (nI_lt h1 (by omega)), if_pos h1, e198_53]
        · rw [if_neg (nI_nlt (by omega) (by omega)), if_neg h1]
          by_cases hw0 : w = 0
          · subst hw0
            rw [if_pos (show nI 0 = 0 from rfl), if_pos rfl, e198_53]
          · have : w = 1 := by omega
            subst this
            rw [if_neg (show ¬ nI 1 = 0 by decide), if_neg (by decide), e198_53]
    · refine ⟨-1, M, M, ?_, ?_, hR, hro⟩
      · rw [e117_0, h0, s46r, zbI_some, ha, if_neg (show ¬ zb true = 0 by decide), s46r, zbI_some, hbb, if_pos (show zb false = 0 from rfl), e117_26]
      · rw [e198_0, s165, zbI_some, h0', ha, if_neg (show ¬ zb true = 0 by decide), s161, zbI_some, hbb, if_pos (show zb false = 0 from rfl), e198_15]
  · refine ⟨-1, M, M, ?_, ?_, hR, hro⟩
    · rw [e117_0, h0, s46r, zbI_some, ha, if_pos (show zb false = 0 from rfl), e117_26]
    · rw [e198_0, s165, zbI_some, h0', ha, if_pos (show zb false = 0 from rfl), e198_15]
/-- the least strained -/
def wml (t : Nat → Nat) : Nat → Nat → Int32 → Nat → Int32
  | 0, _, b, _ => b
  | d + 1, k, b, f => if wsn t k (wen t k) < f then wml t d (k + 1) (nI k) (wsn t k (wen t k)) else wml t d (k + 1) b f
def wma (t : Nat → Nat) : Int32 := wml t (t 1) 0 (-4) 101
theorem s83_l (hb : zTb t) (hc : zTc M 1 t) : ∀ d k, d + k = t 1 → ∀ (b : Int32) (f : Nat) (o : Option Value), f ≤ 14000 → zden (L + 1) 83 8 [some (.ref 35), some (.int b), some (.int (nI f)), some (.int (nI k)), o] [] M = some (some (.int (wml t d k b f)), M) := by
  have ht : t 1 ≤ 4 := hb.1.2.2.1
  intro d
  induction d with
  | zero =>
    intro k hk b f o hf
    rw [e83_8, hc.1.2.1, if_neg (nI_nlt (by omega) (by omega))]; rfl
  | succ d ih =>
    intro k hk b f o hf
    have hle := wsn_le (h := k) (e := wen t k) hb (by omega)
    rw [e83_8, hc.1.2.1, if_pos (nI_lt (by omega) (by omega)), s81 hb hc (by omega), zbI_some]
    unfold wml
    by_cases h1 : wsn t k (wen t k) < f
    · rw [if_pos (nI_lt h1 (by omega)), if_pos h1, e83_37, nI_1]
      exact ih (k + 1) (by omega) _ _ _ hle
    · rw [if_neg (nI_nlt (by omega) (by omega)), if_neg h1, e83_37, nI_1]
      exact ih (k + 1) (by omega) _ _ _ hf
theorem s83 (hb : zTb t) (hc : zTc M 1 t) : zden (L + 1) 83 0 [some (.ref 35), none, none, none, none] [] M = some (some (.int (wma t)), M) := by
  rw [e83_0]
  exact s83_l hb hc (t 1) 0 (by omega) (-4) 101 none (by omega)
theorem s199_l (hb : zTb t) (hm : zTm M 49 t) : ∀ d k, d + k = t 1 → ∀ (b : Int32) (f : Nat) (o : Option Value), f ≤ 14000 → zden (L + 1) 199 8 [some (.ref 48), some (.int b), some (.int (nI f)), some (.int (nI k)), o] [] M = some (some (.int (wml t d k b f)), M) := by
  have ht : t 1 ≤ 4 := hb.1.2.2.1
  intro d
  induction d with
  | zero =>
    intro k hk b f o hf
    rw [e199_8, hm 1 (by omega), if_neg (nI_nlt (by omega) (by omega))]; rfl
  | succ d ih =>
    intro k hk b f o hf
    have hle := wsn_le (h := k) (e := wen t k) hb (by omega)
    rw [e199_8, hm 1 (by omega), if_pos (nI_lt (by omega) (by omega)), s197 hb hm (by omega), zbI_some, s196 (wen_le t k) hb hm (by omega), zbI_some]
    unfold wml
    by_cases h1 : wsn t k (wen t k) < f
    · rw [if_pos (nI_lt h1 (by omega)), if_pos h1, e199_41, if_pos (nI_lt h1 (by omega)), e199_54, nI_1]
      exact ih (k + 1) (by omega) _ _ _ hle
    · rw [if_neg (nI_nlt (by omega) (by omega)), if_neg h1, e199_41, if_neg (nI_nlt (by omega) (by omega)), e199_54, nI_1]
      exact ih (k + 1) (by omega) _ _ _ hf
theorem s199 (hb : zTb t) (hm : zTm M 49 t) : zden (L + 1) 199 0 [some (.ref 48), none, none, none, none] [] M = some (some (.int (wma t)), M) := by
  rw [e199_0]
  exact s199_l hb hm (t 1) 0 (by omega) (-4) 101 none (by omega)
theorem k_mate (hR : zRel M) (hro : ∀ i, zNW ≤ i → M i = ro i) : zSame L ro 118 199 [some (.ref 0)] [some (.ref 48), none, none, none, none] M := by
  obtain ⟨t, hb, hc, hm, -⟩ := id hR
  exact ⟨wma t, M, M, by rw [e118_0, s83 hb hc, zbI_some], s199 hb hm, hR, hro⟩
end KT
