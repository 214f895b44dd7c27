section KB
variable {L : Nat} {ro M : zM} {t : Nat → Nat}
theorem zTm_58 {M' : zM} (hc : zTm M 49 t) (h : ∀ i, i ≠ 58 → M' i = M i) : zTm M' 49 t := zTm_c hc (h 49 (by omega))
theorem s192_k {kd i d l : Nat} {v : Int32} (hb : zTb t) (hm : zTm M 49 t) (hkd : kd ≤ 3) (hi1 : 0 < i) (hid : i + d = t 0 - 1) (hl : l ≤ 180) (o4 o7 : Option Value) : ∀ q k, q + k = t 11 + 1 → ∀ (P : zM) (o10 : Option Value), (∀ x, x ≠ 58 → P x = M x) → (∀ j, j ≤ t 11 → P 58 (100 * (i + 1) + j) = nI (wLv t kd v l d j)) → (∀ j, j < k → P 58 (100 * i + j) = nI (wLv t kd v l (d + 1) j)) → ∃ P' o', zden (L + 1) 192 118 [some (.ref 48), some (.int (nI kd)), some (.int v), some (.int (nI l)), o4, some (.int (nI (t 11))), some (.int (nI i)), o7, some (.int (nI (wjc kd (wcr t kd) (wBf t kd v l i (t 11) (wLv t kd v l d))))), some (.int (nI k)), o10] [] P = zden (L + 1) 192 53 [some (.ref 48), some (.int (nI kd)), some (.int v), some (.int (nI l)), o4, some (.int (nI (t 11))), some (.int (nI (i - 1))), o7, some (.int (nI (wjc kd (wcr t kd) (wBf t kd v l i (t 11) (wLv t kd v l d))))), some (.int (nI (t 11 + 1))), o'] [] P' ∧ (∀ x, x ≠ 58 → P' x = M x) ∧ ∀ j, j ≤ t 11 → P' 58 (100 * i + j) = nI (wLv t kd v l (d + 1) j) := by
  have h12 : t 0 ≤ 12 := hb.1.2.1
  have hst := wSt hb
  have hit : i < t 0 := by omega
  have hie : t 0 - 1 - d = i := by omega
  intro q
  induction q with
  | zero =>
    intro k hk P o10 hP h1 h2
    have hkk : k = t 11 + 1 := by omega
    subst hkk
    refine ⟨P, o10, ?_, hP, fun j hj => h2 j (by omega)⟩
    obtain ⟨i', rfl⟩ : ∃ i', i = i' + 1 := ⟨i - 1, by omega⟩
    rw [e192_118, if_pos (nI_lt (by omega) (by omega)), nI_dn]
    rfl
  | succ q ih =>
    intro k hk P o10 hP h1 h2
    have hmP := zTm_58 hm hP
    have hg2 : ∀ j, wSm 2000 (wLv t kd v l d j) := fun j => wLv_2000 hb (by omega) j
    have hle := wSm_lt (wBf_sm (kd := kd) (l := l) (k := k) (v := v) hb hit (by omega) (fun j _ => hg2 j)) (by omega)
    have hfs := wBf_sm (kd := kd) (l := l) (k := t 11) (v := v) hb hit (by omega) (fun j _ => hg2 j)
    have hR := wSm_lt (wjc_sm (kd := kd) (wcr_le (kd := kd) hb) hfs) (by omega)
    have hge := wjc_ge (kd := kd) (a := wcr t kd) (b := wBf t kd v l i (t 11) (wLv t kd v l d))
    have hv : wLv t kd v l (d + 1) k = min (wBf t kd v l i k (wLv t kd v l d)) (wjc kd (wcr t kd) (wBf t kd v l i (t 11) (wLv t kd v l d))) := by
      show min (wBf t kd v l (t 0 - 1 - d) k _) (wjc kd (wcr t kd) (wBf t kd v l (t 0 - 1 - d) (t 11) _)) = _
      rw [hie]
    obtain ⟨P', o', g1, g2, g3⟩ := ih (k + 1) (by omega) (zput P 58 (100 * i + k) (nI (wLv t kd v l (d + 1) k))) (some (.int (nI (wBf t kd v l i k (wLv t kd v l d))))) (fun x hx => by rw [zput_ne hx, hP x hx]) (fun j hj => by rw [zput_o _ _ (Or.inr (by omega)), h1 j hj]) (fun j hj => by
      by_cases e : j = k
      · rw [e, zput_at]
      · rw [zput_o _ _ (Or.inr (by omega)), h2 j (by omega)])
    refine ⟨P', o', ?_, g2, g3⟩
    rw [← g1, e192_118, if_neg (nI_nlt (by omega) (by omega)), s191 hb hmP hkd hit (by omega) hl (fun j hj => h1 j (by omega)) (fun j _ => hg2 j), zbI_some, show (100 : Int32) = nI 100 from rfl, nI_mul, nI_add]
    have fin : ∀ x, x = wLv t kd v l (d + 1) k → zden (L + 1) 192 171 [some (.ref 48), some (.int (nI kd)), some (.int v), some (.int (nI l)), o4, some (.int (nI (t 11))), some (.int (nI i)), o7, some (.int (nI (wjc kd (wcr t kd) (wBf t kd v l i (t 11) (wLv t kd v l d))))), some (.int (nI k)), some (.int (nI (wBf t kd v l i k (wLv t kd v l d))))] [.int (nI x), .int (nI (100 * i + k)), .ref 58] P = zden (L + 1) 192 118 [some (.ref 48), some (.int (nI kd)), some (.int v), some (.int (nI l)), o4, some (.int (nI (t 11))), some (.int (nI i)), o7, some (.int (nI (wjc kd (wcr t kd) (wBf t kd v l i (t 11) (wLv t kd v l d))))), some (.int (nI (k + 1))), some (.int (nI (wBf t kd v l i k (wLv t kd v l d))))] [] (zput P 58 (100 * i + k) (nI (wLv t kd v l (d + 1) k))) := by
      intro x hx
      rw [e192_171, if_pos ((zinb_nI (by omega)).mpr (by omega)), nI_clamp (by omega), nI_1, hx]
    by_cases c1 : k < t 11
    · rw [if_pos (nI_lt c1 (by omega))]
      by_cases c2 : wjc kd (wcr t kd) (wBf t kd v l i (t 11) (wLv t kd v l d)) < wBf t kd v l i k (wLv t kd v l d)
      · rw [if_pos (nI_lt c2 (by omega)), fin _ (by rw [hv]; omega)]
      · rw [if_neg (nI_nlt (by omega) (by omega)), e192_169, fin _ (by rw [hv]; omega)]
    · have hkk : k = t 11 := by omega
      rw [if_neg (nI_nlt (by omega) (by omega)), e192_169, fin _ (by rw [hv, hkk]; omega)]
theorem s192_i {kd l : Nat} {v : Int32} (hb : zTb t) (hm : zTm M 49 t) (hkd : kd ≤ 3) (hl : l ≤ 180) (o4 : Option Value) : ∀ i d, i + d = t 0 - 1 → ∀ (P : zM) (o7 o8 o9 o10 : Option Value), (∀ x, x ≠ 58 → P x = M x) → (∀ j, j ≤ t 11 → P 58 (100 * (i + 1) + j) = nI (wLv t kd v l d j)) → ∃ P', zden (L + 1) 192 53 [some (.ref 48), some (.int (nI kd)), some (.int v), some (.int (nI l)), o4, some (.int (nI (t 11))), some (.int (nI i)), o7, o8, o9, o10] [] P = some (some (.int (nI (wBe t kd v l))), P') ∧ (∀ x, x ≠ 58 → P' x = M x) ∧ ∀ j, j ≤ t 11 → P' 58 (100 * (0 + 1) + j) = nI (wLv t kd v l (t 0 - 1) j) := by
  have h12 : t 0 ≤ 12 := hb.1.2.1
  have h1t : 1 ≤ t 0 := hb.1.1
  have hst := wSt hb
  intro i
  induction i with
  | zero =>
    intro d hd P o7 o8 o9 o10 hP h1
    have hdd : d = t 0 - 1 := by omega
    subst hdd
    refine ⟨P, ?_, hP, h1⟩
    have hg2 : ∀ j, wSm 2000 (wLv t kd v l (t 0 - 1) j) := fun j => wLv_2000 hb (by omega) j
    rw [e192_53, if_neg (by decide)]
    rw [show (0 : Int32) = nI 0 from rfl, s191 hb (zTm_58 hm hP) hkd (by omega) (by omega) hl h1 (fun j _ => hg2 j), zbI_some]
    rfl
  | succ i ih =>
    intro d hd P o7 o8 o9 o10 hP h1
    have hit : i + 1 < t 0 := by omega
    have hmP := zTm_58 hm hP
    have hg2 : ∀ j, wSm 2000 (wLv t kd v l d j) := fun j => wLv_2000 hb (by omega) j
    have hfs := wBf_sm (kd := kd) (l := l) (k := t 11) (v := v) hb hit (by omega) (fun j _ => hg2 j)
    have hfl := wSm_lt hfs (by omega)
    have hcr := wcr_le (kd := kd) hb
    obtain ⟨P1, o1, g1, g2, g3⟩ := s192_k (L := L) (kd := kd) (i := i + 1) (d := d) (l := l) (v := v) hb hm hkd (by omega) hd hl o4 (some (.int (nI (wBf t kd v l (i + 1) (t 11) (wLv t kd v l d))))) (t 11 + 1) 0 (by omega) P o10 hP h1 (fun j hj => by omega)
    obtain ⟨P2, r1, r2, r3⟩ := ih (d + 1) (by omega) P1 (some (.int (nI (wBf t kd v l (i + 1) (t 11) (wLv t kd v l d))))) (some (.int (nI (wjc kd (wcr t kd) (wBf t kd v l (i + 1) (t 11) (wLv t kd v l d)))))) (some (.int (nI (t 11 + 1)))) o1 g2 g3
    refine ⟨P2, ?_, r2, r3⟩
    rw [show i + 1 - 1 = i by omega] at g1
    rw [← r1, ← g1, e192_53, if_pos (show (0 : Int32) < nI (i + 1) from nI_lt (a := 0) (by omega) (by omega)), s191 hb hmP hkd hit (by omega) hl h1 (fun j _ => hg2 j), zbI_some]
    have fin : ∀ x o9, x = wjc kd (wcr t kd) (wBf t kd v l (i + 1) (t 11) (wLv t kd v l d)) → zden (L + 1) 192 113 [some (.ref 48), some (.int (nI kd)), some (.int v), some (.int (nI l)), o4, some (.int (nI (t 11))), some (.int (nI (i + 1))), some (.int (nI (wBf t kd v l (i + 1) (t 11) (wLv t kd v l d)))), o8, o9, o10] [.int (nI x)] P = zden (L + 1) 192 118 [some (.ref 48), some (.int (nI kd)), some (.int v), some (.int (nI l)), o4, some (.int (nI (t 11))), some (.int (nI (i + 1))), some (.int (nI (wBf t kd v l (i + 1) (t 11) (wLv t kd v l d)))), some (.int (nI (wjc kd (wcr t kd) (wBf t kd v l (i + 1) (t 11) (wLv t kd v l d))))), some (.int (nI 0)), o10] [] P := by
      intro x o9 hx
      rw [e192_113, hx]
      rfl
    by_cases c1 : wBf t kd v l (i + 1) (t 11) (wLv t kd v l d) = 1000000
    · rw [if_pos (show nI (wBf t kd v l (i + 1) (t 11) (wLv t kd v l d)) = 1000000 by rw [c1]; rfl)]
      exact fin 1000000 o9 (by unfold wjc; rw [if_pos c1])
    · rw [if_neg (show ¬ nI (wBf t kd v l (i + 1) (t 11) (wLv t kd v l d)) = 1000000 from fun q => c1 ((nI_eq (b := 1000000) (by omega) (by omega)).mp q))]
      have fin2 : ∀ c, c = wcr t kd → zden (L + 1) 192 108 [some (.ref 48), some (.int (nI kd)), some (.int v), some (.int (nI l)), o4, some (.int (nI (t 11))), some (.int (nI (i + 1))), some (.int (nI (wBf t kd v l (i + 1) (t 11) (wLv t kd v l d)))), o8, o9, o10] [.int (nI c), .int (nI kd)] P = zden (L + 1) 192 118 [some (.ref 48), some (.int (nI kd)), some (.int v), some (.int (nI l)), o4, some (.int (nI (t 11))), some (.int (nI (i + 1))), some (.int (nI (wBf t kd v l (i + 1) (t 11) (wLv t kd v l d)))), some (.int (nI (wjc kd (wcr t kd) (wBf t kd v l (i + 1) (t 11) (wLv t kd v l d))))), some (.int (nI 0)), o10] [] P := by
        intro c hc
        rw [e192_108, s189 hkd (by omega) (by omega), zbI_some, hc]
        exact fin _ o9 (by unfold wjc; rw [if_neg c1])
      by_cases k0 : kd = 0
      · rw [if_pos (show nI kd = 0 by rw [k0]; rfl), hmP 12 (by omega)]
        exact fin2 (t 12) (by unfold wcr; rw [if_pos k0])
      · rw [if_neg (nI_ne0 (by omega) (by omega))]
        by_cases k2 : kd = 2
        · rw [if_pos (show nI kd = 2 by rw [k2]; rfl)]
          exact fin2 1 (by unfold wcr; rw [if_neg k0, if_pos k2])
        · rw [if_neg (show ¬ nI kd = 2 from fun q => k2 ((nI_eq (b := 2) (by omega) (by omega)).mp q))]
          exact fin2 0 (by unfold wcr; rw [if_neg k0, if_neg k2])
theorem s192_z {kd l : Nat} {v : Int32} (hb : zTb t) (hm : zTm M 49 t) (hkd : kd ≤ 3) (hl : l ≤ 180) : ∀ d k, d + k = 100 → ∃ P', zden (L + 1) 192 20 [some (.ref 48), some (.int (nI kd)), some (.int v), some (.int (nI l)), some (.int (nI (t 0))), some (.int (nI (t 11))), some (.int (nI k)), none, none, none, none] [] (zln M 58 (100 * t 0) k (fun _ => 0)) = some (some (.int (nI (wBe t kd v l))), P') ∧ (∀ x, x ≠ 58 → P' x = M x) ∧ ∀ j, j ≤ t 11 → P' 58 (100 * (0 + 1) + j) = nI (wLv t kd v l (t 0 - 1) j) := by
  have h12 : t 0 ≤ 12 := hb.1.2.1
  have h1t : 1 ≤ t 0 := hb.1.1
  have hst := wSt hb
  intro d
  induction d with
  | zero =>
    intro k hk
    have : k = 100 := by omega
    subst this
    obtain ⟨P', g1, g2, g3⟩ := s192_i (L := L) (kd := kd) (l := l) (v := v) hb hm hkd hl (some (.int (nI (t 0)))) (t 0 - 1) 0 (by omega) (zln M 58 (100 * t 0) 100 (fun _ => 0)) none none none none (fun x hx => zln_row M hx) (fun j hj => by rw [zln_in _ (by omega) (by omega)]; rfl)
    refine ⟨P', ?_, g2, g3⟩
    rw [e192_20, if_neg (by decide), show nI (t 0) - 1 = nI (t 0 - 1) from nI_sub (b := 1) h1t, g1]
  | succ d ih =>
    intro k hk
    obtain ⟨P', g1, g2, g3⟩ := ih (k + 1) (by omega)
    refine ⟨P', ?_, g2, g3⟩
    rw [e192_20, if_pos (zlt_100 (by omega)), show (100 : Int32) = nI 100 from rfl, nI_mul, nI_add, if_pos ((zinb_nI (by omega)).mpr (by omega)), nI_clamp (by omega), zln_s M 58 (100 * t 0) k (fun _ => 0), nI_1]
    exact g1
theorem s192 {kd l : Nat} {v : Int32} (hb : zTb t) (hm : zTm M 49 t) (hkd : kd ≤ 3) (hl : l ≤ 180) : ∃ P', zden (L + 1) 192 0 [some (.ref 48), some (.int (nI kd)), some (.int v), some (.int (nI l)), none, none, none, none, none, none, none] [] M = some (some (.int (nI (wBe t kd v l))), P') ∧ (∀ x, x ≠ 58 → P' x = M x) ∧ ∀ j, j ≤ t 11 → P' 58 (100 * (0 + 1) + j) = nI (wLv t kd v l (t 0 - 1) j) := by
  obtain ⟨P', g1, g2, g3⟩ := s192_z (L := L) (kd := kd) (l := l) (v := v) hb hm hkd hl 100 0 (by omega)
  rw [zln_0] at g1
  refine ⟨P', ?_, g2, g3⟩
  rw [e192_0, hm 0 (by omega), hm 11 (by omega)]
  exact g1
end KB
