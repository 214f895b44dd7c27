section KB
variable {L : Nat} {ro M : zM} {t : Nat → Nat}
def wmA (t : Nat → Nat) (v : Int32) : Nat := if wBe t 0 v (wl0 t) < 1000000 then wup (wBe t 0 v (wl0 t)) 12 else 1000000
def wW2 (t : Nat → Nat) (h : Nat) : Int32 := zwt t 1 h 500 300 0
/-- which way out, and how long -/
def wou (t : Nat → Nat) (h : Nat) (v : Int32) (u : Nat) : Int32 :=
  if ¬ wW2 t h = -4 ∧ ¬ wma t = -4 ∧ wW2 t h + nI (wup (t 0) 4) < nI (min (t 15) (wmA t v)) then (if u = 0 then 2 else wW2 t h + nI (wup (t 0) 4)) else (if u = 0 then nI (if t 15 < wmA t v then 1 else 0) else nI (min (t 15) (wmA t v)))
theorem wmA_le {v : Int32} (hb : zTb t) : wmA t v ≤ 1000000 := by
  have h1 := wBe_le (kd := 0) (l := wl0 t) (v := v) hb
  have h2 := wup_le (a := wBe t 0 v (wl0 t)) (b := 12) (by omega)
  unfold wmA; split <;> omega
theorem s125 {v : Int32} (hb : zTb t) (hc : zTc M 1 t) (hk : zRo M) : ∃ P, zden (L + 1) 125 0 [some (.ref 0), some (.int v), none] [] M = some (some (.int (nI (wmA t v))), P) ∧ wFr P M := by
  obtain ⟨P, p1, p2, p3, p4⟩ := s92 (L := L) (kd := 0) (v := v) hb hc hk (by omega)
  have hbl := wBe_le (kd := 0) (l := wl0 t) (v := v) hb
  refine ⟨P, ?_, p2⟩
  rw [nI_0] at p1
  rw [e125_0, p1, zbI_some]
  unfold wmA
  by_cases h : wBe t 0 v (wl0 t) < 1000000
  · rw [if_pos (show nI (wBe t 0 v (wl0 t)) < 1000000 from nI_lt (b := 1000000) h (by omega)), if_pos h, show (12 : Int32) = nI 12 from rfl, nI_up (by omega) (by omega), zbI_some, e125_27]
  · rw [if_neg (show ¬ nI (wBe t 0 v (wl0 t)) < 1000000 from nI_nlt (b := 1000000) (by omega) (by omega)), if_neg h, e125_27]; rfl
theorem s126 {h : Nat} (hb : zTb t) (hc : zTc M 1 t) (hh : h ≤ 23) : zden (L + 1) 126 0 [some (.ref 0), some (.int (nI h)), none] [] M = some (some (.int (if ¬ wW2 t h = -4 ∧ ¬ wma t = -4 then wW2 t h + nI (wup (t 0) 4) else 1000000)), zmk M t 1) := by
  have h12 : t 0 ≤ 12 := hb.1.2.1
  have hcK : zTc (zmk M t 1) 1 t := zTc_41 (o := 37) hc (fun i hi => zmk_row 1 hi) (by omega)
  rw [e126_0, s10 hb hc 1 500 hh, zbI_some]
  by_cases h1 : wW2 t h = -4
  · rw [if_pos (show zwt t 1 h 500 300 0 = -4 from h1), e126_31, if_neg (fun q => q.1 h1)]
  · rw [if_neg (show ¬ zwt t 1 h 500 300 0 = -4 from h1), s83 hb hcK, zbI_some]
    by_cases h2 : wma t = -4
    · rw [if_pos h2, e126_31, if_neg (fun q => q.2 h2)]
    · rw [if_neg h2, hcK.1.1, show (4 : Int32) = nI 4 from rfl, nI_up (by omega) (by omega), zbI_some, if_pos ⟨h1, h2⟩]
      rfl
theorem k_out (hk : zRo ro) (a v w : Int32) (hR : zRel M) (hro : ∀ i, zNW ≤ i → M i = ro i) : zSame L ro 127 211 [some (.ref 0), some (.int a), some (.int v), some (.int w), none, none, none] [some (.ref 48), some (.int a), some (.int v), some (.int w), none, none, none, none] M := by
  obtain ⟨t, hb, hc, hm, -⟩ := id hR
  have hkM := zRo_of hk hro
  have h12 : t 0 ≤ 12 := hb.1.2.1
  have h15 : t 15 ≤ 99 := by have := hb.2.1; omega
  rcases zrng_cases a 0 23 with ha | ha
  · rcases zrng_cases w 0 1 with hw | hw
    · obtain ⟨h, hh, rfl⟩ := zrng_nI (b := 23) (by omega) ha
      obtain ⟨u, hu, rfl⟩ := zrng_nI (b := 1) (by omega) hw
      obtain ⟨P, p1, p2⟩ := s125 (L := L) (v := v) hb hc hkM
      have hcP := zTc_fr p2 hc
      have hl : wl0 t ≤ 180 := by have := wld hb; unfold wl0; omega
      have hK : ∀ i, i ≠ 37 → zmk P t 1 i = P i := fun i hi => zmk_row 1 hi
      have hmK : zTm (zmk P t 1) 49 t := by
        refine zTm_c hm ?_
        rw [hK 49 (by omega), wFr_scr p2 49 (by decide)]
      obtain ⟨Q, q1, q2, q3⟩ := s192 (L := L) (kd := 0) (v := v) hb hmK (by omega) hl
      have hmQ := zTm_58 hmK q2
      have hbl := wBe_le (kd := 0) (l := wl0 t) (v := v) hb
      have hml := wmA_le (v := v) hb
      obtain ⟨r1, r2⟩ := zRel_g (M' := Q) hR hro (fun i hi => by rw [q2 i (zscr_ne hi (by decide)), hK i (zscr_ne hi (by decide)), wFr_scr p2 i hi])
      refine ⟨wou t h v u, zmk P t 1, Q, ?_, ?_, r1, r2⟩
      · rw [e127_0, s46r, zbI_some, ha, if_neg (show ¬ zb true = 0 by decide), s46r, zbI_some, hw, if_neg (show ¬ zb true = 0 by decide), p1, zbI_some, s0_11, zbI_some, show P 4 11 = nI (t 15) from hcP.2.1 11 (by omega)]
        have fin : ∀ (x y : Nat) (o2 o6 : Option Value), x = (if t 15 < wmA t v then 1 else 0) → y = min (t 15) (wmA t v) → zden (L + 1) 127 59 [some (.ref 0), some (.int (nI h)), o2, some (.int (nI u)), some (.int (nI x)), some (.int (nI y)), o6] [] P = some (some (.int (wou t h v u)), zmk P t 1) := by
          intro x y o2 o6 hx hy
          rw [e127_59, s126 hb hcP hh, zbI_some]
          unfold wou
          rw [← hx, ← hy]
          by_cases c1 : ¬ wW2 t h = -4 ∧ ¬ wma t = -4
          · rw [if_pos c1]
            by_cases c2 : wW2 t h + nI (wup (t 0) 4) < nI y
            · rw [if_pos c2, if_pos ⟨c1.1, c1.2, c2⟩, e127_80]
              by_cases hu0 : u = 0
              · rw [if_pos (show nI u = 0 by rw [hu0]; rfl), e127_91, if_pos hu0]
              · rw [if_neg (nI_ne0 (by omega) (by omega)), e127_91, if_neg hu0]
            · rw [if_neg c2, if_neg (fun q => c2 q.2.2), e127_80]
              by_cases hu0 : u = 0
              · rw [if_pos (show nI u = 0 by rw [hu0]; rfl), e127_91, if_pos hu0]
              · rw [if_neg (nI_ne0 (by omega) (by omega)), e127_91, if_neg hu0]
          · rw [if_neg c1, if_neg (show ¬ (1000000 : Int32) < nI y from nI_nlt (a := 1000000) (by omega) (by omega)), if_neg (fun q => c1 ⟨q.1, q.2.1⟩), e127_80]
            by_cases hu0 : u = 0
            · rw [if_pos (show nI u = 0 by rw [hu0]; rfl), e127_91, if_pos hu0]
            · rw [if_neg (nI_ne0 (by omega) (by omega)), e127_91, if_neg hu0]
        by_cases h1 : t 15 < wmA t v
        · rw [if_pos (nI_lt h1 (by omega)), s0_11, zbI_some, show P 4 11 = nI (t 15) from hcP.2.1 11 (by omega)]
          exact fin 1 _ _ _ (by rw [if_pos h1]) (by omega)
        · rw [if_neg (nI_nlt (by omega) (by omega))]
          exact fin 0 _ _ _ (by rw [if_neg h1]) (by omega)
      · rw [nI_0] at q1
        rw [e211_0, s167, zbI_some, ha, if_neg (show ¬ zb true = 0 by decide), s161, zbI_some, hw, if_neg (show ¬ zb true = 0 by decide), s163 hmK, zbI_some]
        rw [show zden (L + 1) 192 0 [some (.ref 48), some (.int 0), some (.int v), some (.int (nI (t 5 + t 7 + t 8))), none, none, none, none, none, none, none] [] (zmk P t 1) = _ from q1, zbI_some]
        have fin : ∀ (x y : Nat) (o2 o4 o7 : Option Value), x = (if t 15 < wmA t v then 1 else 0) → y = min (t 15) (wmA t v) → zden (L + 1) 211 92 [some (.ref 48), some (.int (nI h)), o2, some (.int (nI u)), o4, some (.int (nI x)), some (.int (nI y)), o7] [] Q = some (some (.int (wou t h v u)), Q) := by
          intro x y o2 o4 o7 hx hy
          have h172 : zden (L + 1) 172 0 [some (.int (nI (t 0))), some (.int 4)] [] Q = some (some (.int (nI (wup (t 0) 4))), Q) := s172 (q := 4) (by omega) (by omega)
          have h209 := s209 (L := L) (p := 500) hb hmQ 1 (by omega) (by omega) hh
          have w2 : ∀ (X Y : Int32) (o0 o1 o2 o4 o7 : Option Value), zden (L + 1) 211 155 [o0, o1, o2, some (.int (nI u)), o4, some (.int X), some (.int Y), o7] [] Q = some (some (.int (if u = 0 then X else Y)), Q) := by
            intro X Y o0 o1 o2 o4 o7
            rw [e211_155]
            by_cases hu0 : u = 0
            · rw [if_pos (show nI u = 0 by rw [hu0]; rfl), e211_166, if_pos hu0]
            · rw [if_neg (nI_ne0 (by omega) (by omega)), e211_166, if_neg hu0]
          rw [e211_92]
          rw [show zden (L + 1) 209 0 [some (.ref 48), some (.int (nI h)), some (.int 500), some (.int 1), none, none] [] Q = _ from h209, zbI_some, s199 hb hmQ, zbI_some, show zwt t 1 h (nI 500) 300 0 = wW2 t h from rfl]
          unfold wou
          rw [← hx, ← hy]
          by_cases c2 : wma t = -4
          · rw [if_pos c2, if_neg (show ¬ (¬ wW2 t h = -4 ∧ ¬ wma t = -4 ∧ wW2 t h + nI (wup (t 0) 4) < nI y) from fun q => q.2.1 c2), w2]
          · rw [if_neg c2]
            by_cases c1 : wW2 t h = -4
            · rw [if_pos c1, if_neg (show ¬ (¬ wW2 t h = -4 ∧ ¬ wma t = -4 ∧ wW2 t h + nI (wup (t 0) 4) < nI y) from fun q => q.1 c1), w2]
            · rw [if_neg c1, hmQ 0 (by omega), h172, zbI_some]
              by_cases c3 : wW2 t h + nI (wup (t 0) 4) < nI y
              · rw [if_pos c3, hmQ 0 (by omega), h172, zbI_some, if_pos (show (¬ wW2 t h = -4 ∧ ¬ wma t = -4 ∧ wW2 t h + nI (wup (t 0) 4) < nI y) from ⟨c1, c2, c3⟩), w2]
              · rw [if_neg c3, if_neg (show ¬ (¬ wW2 t h = -4 ∧ ¬ wma t = -4 ∧ wW2 t h + nI (wup (t 0) 4) < nI y) from fun q => c3 q.2.2), w2]
        by_cases h1 : wBe t 0 v (wl0 t) = 1000000
        · have hA : wmA t v = 1000000 := by unfold wmA; rw [if_neg (by omega)]
          rw [if_pos (show nI (wBe t 0 v (wl0 t)) = 1000000 by rw [h1]; rfl), e211_40, if_pos (show nI (wBe t 0 v (wl0 t)) = 1000000 by rw [h1]; rfl), e211_66, hmQ 15 (by omega), if_neg (nI_nlt (by omega) (by omega))]
          exact fin 1 _ _ _ _ (by rw [if_pos (by omega)]) (by omega)
        · have hA : wmA t v = wup (wBe t 0 v (wl0 t)) 12 := by unfold wmA; rw [if_pos (by omega)]
          have hne : ¬ nI (wBe t 0 v (wl0 t)) = 1000000 := fun q => h1 ((nI_eq (b := 1000000) (by omega) (by omega)).mp q)
          rw [if_neg hne, e211_40, if_neg hne, show (12 : Int32) = nI 12 from rfl, s172 (by omega) (by omega), zbI_some, e211_66, hmQ 15 (by omega), ← hA]
          by_cases h2 : t 15 < wmA t v
          · rw [if_pos (nI_lt h2 (by omega))]
            exact fin 1 _ _ _ _ (by rw [if_pos h2]) (by omega)
          · rw [if_neg (nI_nlt (by omega) (by omega))]
            exact fin 0 _ _ _ _ (by rw [if_neg h2]) (by omega)
    · refine ⟨-1, M, M, ?_, ?_, hR, hro⟩
      · rw [e127_0, s46r, zbI_some, ha, if_neg (show ¬ zb true = 0 by decide), s46r, zbI_some, hw, if_pos (show zb false = 0 from rfl), e127_19]
      · rw [e211_0, s167, zbI_some, ha, if_neg (show ¬ zb true = 0 by decide), s161, zbI_some, hw, if_pos (show zb false = 0 from rfl), e211_14]
  · refine ⟨-1, M, M, ?_, ?_, hR, hro⟩
    · rw [e127_0, s46r, zbI_some, ha, if_pos (show zb false = 0 from rfl), e127_19]
    · rw [e211_0, s167, zbI_some, ha, if_pos (show zb false = 0 from rfl), e211_14]
end KB
