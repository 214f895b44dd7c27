section KB
variable {L : Nat} {ro M : zM} {t : Nat → Nat}
theorem zRel_g {M' : zM} (hR : zRel M) (hro : ∀ i, zNW ≤ i → M i = ro i) (h : ∀ i, zscr i = false → M' i = M i) : zRel M' ∧ ∀ i, zNW ≤ i → M' i = ro i :=
  ⟨zRel_s hR (fun i hi _ => h i hi) (fun j _ => by rw [h 48 (by decide)]), fun i hi => by rw [h i (zscr_no (by have : zNW = 62 := rfl; omega)), hro i hi]⟩
theorem zscr_ne {i k : Nat} (h : zscr i = false) (hk : zscr k = true) : i ≠ k := fun q => by rw [q, hk] at h; cases h
theorem wFr_scr {P : zM} (h : wFr P M) : ∀ i, zscr i = false → P i = M i := fun i hi => h i (zscr_ne hi (by decide)) (zscr_ne hi (by decide)) (zscr_ne hi (by decide)) (zscr_ne hi (by decide)) (zscr_ne hi (by decide))
/-- the first manner of the best -/
def wa0 (t : Nat → Nat) (kd : Nat) (v : Int32) (m : Nat) : Nat := wAf t kd v (wl0 t) 0 m (t 11) (wLv t kd v (wl0 t) (t 0 - 1))
def wfi (t : Nat → Nat) (kd : Nat) (v : Int32) : Nat := if wa0 t kd v 0 = wBe t kd v (wl0 t) then 0 else if wa0 t kd v 1 = wBe t kd v (wl0 t) then 1 else 2
theorem wfi_2 {kd : Nat} {v : Int32} (h : wBe t kd v (wl0 t) ≠ 1000000) (h0 : wa0 t kd v 0 ≠ wBe t kd v (wl0 t)) (h1 : wa0 t kd v 1 ≠ wBe t kd v (wl0 t)) : wa0 t kd v 2 = wBe t kd v (wl0 t) := by
  unfold wBe wBf at *
  unfold wa0 at *
  omega
theorem wa0_le {kd m : Nat} {v : Int32} (hb : zTb t) : wa0 t kd v m ≤ 1000000 := by
  have h1t : 1 ≤ t 0 := hb.1.1
  exact wAf_le hb (by omega) (fun j _ => wLv_2000 hb (by omega) j)
theorem wBe_le {kd l : Nat} {v : Int32} (hb : zTb t) : wBe t kd v l ≤ 1000000 := by
  have h1t : 1 ≤ t 0 := hb.1.1
  exact wSm_lt (wBf_sm hb (by omega) (by omega) (fun j _ => wLv_2000 hb (by omega) j)) (by omega)
theorem s93 {kd : Nat} {v : Int32} (hb : zTb t) (hc : zTc M 1 t) (hkd : kd ≤ 3) (hcs : wCs M t kd (wst t v 0) v) (hg : ∀ j, j ≤ t 11 → M 30 j = nI (wLv t kd v (wl0 t) (t 0 - 1) j)) (hne : wBe t kd v (wl0 t) ≠ 1000000) : zden (L + 1) 93 0 [some (.ref 29), some (.int (nI kd)), some (.int (nI (wBe t kd v (wl0 t)))), none] [] M = some (some (.int (nI (wfi t kd v))), M) := by
  have h1t : 1 ≤ t 0 := hb.1.1
  have hst := wSt hb
  have hbl := wBe_le (kd := kd) (l := wl0 t) (v := v) hb
  have st : ∀ m, m < 3 → zden (L + 1) 93 2 [some (.ref 29), some (.int (nI kd)), some (.int (nI (wBe t kd v (wl0 t)))), some (.int (nI m))] [] M = if wa0 t kd v m = wBe t kd v (wl0 t) then some (some (.int (nI m)), M) else zden (L + 1) 93 2 [some (.ref 29), some (.int (nI kd)), some (.int (nI (wBe t kd v (wl0 t)))), some (.int (nI (m + 1)))] [] M := by
    intro m hm
    have hle := wa0_le (kd := kd) (m := m) (v := v) hb
    rw [e93_2, if_pos (show nI m < 3 from nI_lt (b := 3) hm (by omega)), s0_7, zbI_some, show M 4 7 = nI (t 11) from hc.2.1 7 (by omega), s90 hb hkd (by omega) hm (by omega) hcs hg (fun j _ => wLv_2000 hb (by omega) j), zbI_some, nI_1]
    by_cases h : wa0 t kd v m = wBe t kd v (wl0 t)
    · rw [if_pos h, if_pos (show nI (wAf t kd v (wl0 t) 0 m (t 11) (wLv t kd v (wl0 t) (t 0 - 1))) = nI (wBe t kd v (wl0 t)) from congrArg nI h)]
    · rw [if_neg h, if_neg (show ¬ nI (wAf t kd v (wl0 t) 0 m (t 11) (wLv t kd v (wl0 t) (t 0 - 1))) = nI (wBe t kd v (wl0 t)) from fun q => h ((nI_eq (by omega) (by omega)).mp q))]
  rw [e93_0, show (0 : Int32) = nI 0 from rfl, st 0 (by omega)]
  unfold wfi
  by_cases h0 : wa0 t kd v 0 = wBe t kd v (wl0 t)
  · rw [if_pos h0, if_pos h0]
  · rw [if_neg h0, if_neg h0, st 1 (by omega)]
    by_cases h1 : wa0 t kd v 1 = wBe t kd v (wl0 t)
    · rw [if_pos h1, if_pos h1]
    · rw [if_neg h1, if_neg h1, st 2 (by omega), if_pos (wfi_2 hne h0 h1)]
theorem s193_l {kd w : Nat} {v : Int32} (hb : zTb t) (hm : zTm M 49 t) (hkd : kd ≤ 3) (hw : w ≤ 1) (hg : ∀ j, j ≤ t 11 → M 58 (100 * (0 + 1) + j) = nI (wLv t kd v (wl0 t) (t 0 - 1) j)) (hne : wBe t kd v (wl0 t) ≠ 1000000) : zden (L + 1) 193 46 [some (.ref 48), some (.int (nI kd)), some (.int v), some (.int (nI w)), some (.int (nI (wBe t kd v (wl0 t)))), some (.int 0)] [] M = some (some (.int (if w = 0 then nI (wBe t kd v (wl0 t)) else nI (wfi t kd v))), M) := by
  have h1t : 1 ≤ t 0 := hb.1.1
  have hst := wSt hb
  have hbl := wBe_le (kd := kd) (l := wl0 t) (v := v) hb
  have hl : wl0 t ≤ 180 := by have := wld hb; unfold wl0; omega
  have st : ∀ m, m < 3 → zden (L + 1) 193 46 [some (.ref 48), some (.int (nI kd)), some (.int v), some (.int (nI w)), some (.int (nI (wBe t kd v (wl0 t)))), some (.int (nI m))] [] M = if wa0 t kd v m = wBe t kd v (wl0 t) then some (some (.int (if w = 0 then nI (wBe t kd v (wl0 t)) else nI m)), M) else zden (L + 1) 193 46 [some (.ref 48), some (.int (nI kd)), some (.int v), some (.int (nI w)), some (.int (nI (wBe t kd v (wl0 t)))), some (.int (nI (m + 1)))] [] M := by
    intro m hm3
    have hle := wa0_le (kd := kd) (m := m) (v := v) hb
    have h190 := s190 (L := L) (kd := kd) (i := 0) (m := m) (k := t 11) (l := wl0 t) (v := v) hb hm hkd (by omega) hm3 (by omega) hl hg (fun j _ => wLv_2000 hb (by omega) j)
    rw [show wl0 t = t 5 + t 7 + t 8 from rfl, nI_0] at h190
    rw [e193_46, s163 hm, zbI_some, hm 11 (by omega), h190, zbI_some, nI_1]
    by_cases h : wa0 t kd v m = wBe t kd v (wl0 t)
    · rw [if_pos h, if_pos (show nI (wAf t kd v (t 5 + t 7 + t 8) 0 m (t 11) (wLv t kd v (t 5 + t 7 + t 8) (t 0 - 1))) = nI (wBe t kd v (wl0 t)) from congrArg nI h)]
      by_cases hw0 : w = 0
      · rw [if_pos (show nI w = 0 by rw [hw0]; rfl), e193_88, if_pos hw0]
      · rw [if_neg (nI_ne0 (by omega) (by omega)), e193_88, if_neg hw0]
    · rw [if_neg h, if_neg (show ¬ nI (wAf t kd v (t 5 + t 7 + t 8) 0 m (t 11) (wLv t kd v (t 5 + t 7 + t 8) (t 0 - 1))) = nI (wBe t kd v (wl0 t)) from fun q => h ((nI_eq (by omega) (by omega)).mp q))]
  have s0 := st 0 (by omega)
  rw [nI_0] at s0
  rw [s0]
  unfold wfi
  by_cases h0 : wa0 t kd v 0 = wBe t kd v (wl0 t)
  · rw [if_pos h0, if_pos h0]; rfl
  · rw [if_neg h0, if_neg h0, st 1 (by omega)]
    by_cases h1 : wa0 t kd v 1 = wBe t kd v (wl0 t)
    · rw [if_pos h1, if_pos h1]
    · rw [if_neg h1, if_neg h1, st 2 (by omega), if_pos (wfi_2 hne h0 h1)]
theorem k_best (hk : zRo ro) (a v w : Int32) (hR : zRel M) (hro : ∀ i, zNW ≤ i → M i = ro i) : zSame L ro 115 193 [some (.ref 0), some (.int a), some (.int v), some (.int w), none] [some (.ref 48), some (.int a), some (.int v), some (.int w), none, none] M := by
  obtain ⟨t, hb, hc, hm, -⟩ := id hR
  have hkM := zRo_of hk hro
  rcases zrng_cases a 0 3 with ha | ha
  · rcases zrng_cases w 0 1 with hw | hw
    · obtain ⟨kd, hkd, rfl⟩ := zrng_nI (b := 3) (by omega) ha
      obtain ⟨u, hu, rfl⟩ := zrng_nI (b := 1) (by omega) hw
      obtain ⟨P, p1, p2, p3, p4⟩ := s92 (L := L) (v := v) hb hc hkM hkd
      have hcP := zTc_fr p2 hc
      have hmP : zTm P 49 t := zTm_c hm (wFr_scr p2 49 (by decide))
      have hl : wl0 t ≤ 180 := by have := wld hb; unfold wl0; omega
      obtain ⟨Q, q1, q2, q3⟩ := s192 (L := L) (v := v) hb hmP hkd hl
      have hmQ := zTm_58 hmP q2
      have hbl := wBe_le (kd := kd) (l := wl0 t) (v := v) hb
      obtain ⟨r1, r2⟩ := zRel_g (M' := Q) hR hro (fun i hi => by rw [q2 i (zscr_ne hi (by decide)), wFr_scr p2 i hi])
      refine ⟨if wBe t kd v (wl0 t) = 1000000 then -4 else if u = 0 then nI (wBe t kd v (wl0 t)) else nI (wfi t kd v), P, Q, ?_, ?_, r1, r2⟩
      · rw [e115_0, s46r, zbI_some, ha, if_neg (show ¬ zb true = 0 by decide), s46r, zbI_some, hw, if_neg (show ¬ zb true = 0 by decide), p1, zbI_some]
        by_cases h : wBe t kd v (wl0 t) = 1000000
        · rw [if_neg (show ¬ nI (wBe t kd v (wl0 t)) < 1000000 from nI_nlt (b := 1000000) (by omega) (by omega)), if_pos h]
        · rw [if_pos (show nI (wBe t kd v (wl0 t)) < 1000000 from nI_lt (b := 1000000) (by omega) (by omega)), if_neg h]
          by_cases hu0 : u = 0
          · rw [if_pos (show nI u = 0 by rw [hu0]; rfl), e115_60, if_pos hu0]
          · rw [if_neg (nI_ne0 (by omega) (by omega)), s93 hb hcP hkd p3 p4 h, zbI_some, e115_60, if_neg hu0]
      · rw [e193_0, s143r L _ 0 3 (by decide) (by decide), zbI_some, ha, if_neg (show ¬ zb true = 0 by decide), s161, zbI_some, hw, if_neg (show ¬ zb true = 0 by decide), s163 hmP, zbI_some]
        rw [show zden (L + 1) 192 0 [some (.ref 48), some (.int (nI kd)), some (.int v), some (.int (nI (t 5 + t 7 + t 8))), none, none, none, none, none, none, none] [] P = _ from q1, zbI_some]
        by_cases h : wBe t kd v (wl0 t) = 1000000
        · rw [if_pos (show nI (wBe t kd v (wl0 t)) = 1000000 by rw [h]; rfl), if_pos h]
        · rw [if_neg (show ¬ nI (wBe t kd v (wl0 t)) = 1000000 from fun q => h ((nI_eq (b := 1000000) (by omega) (by omega)).mp q)), if_neg h]
          exact s193_l hb hmQ hkd hu q3 h
    · refine ⟨-1, M, M, ?_, ?_, hR, hro⟩
      · rw [e115_0, s46r, zbI_some, ha, if_neg (show ¬ zb true = 0 by decide), s46r, zbI_some, hw, if_pos (show zb false = 0 from rfl), e115_18]
      · rw [e193_0, s143r L _ 0 3 (by decide) (by decide), zbI_some, ha, if_neg (show ¬ zb true = 0 by decide), s161, zbI_some, hw, if_pos (show zb false = 0 from rfl), e193_19]
  · refine ⟨-1, M, M, ?_, ?_, hR, hro⟩
    · rw [e115_0, s46r, zbI_some, ha, if_pos (show zb false = 0 from rfl), e115_18]
    · rw [e193_0, s143r L _ 0 3 (by decide) (by decide), zbI_some, ha, if_pos (show zb false = 0 from rfl), e193_19]
end KB
