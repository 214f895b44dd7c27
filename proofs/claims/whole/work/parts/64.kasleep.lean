section KZ
variable {L : Nat} {ro M : zM} {t : Nat → Nat} {v : Int32}
/-- how the tables of both stand after i steps -/
def wIv (t : Nat → Nat) (v : Int32) (i ls : Nat) (x : Int32) : Prop := ls ≤ 60 * i ∧ ((x < 0 ∧ 10 * t 10 < ls ∧ ∀ k b, wG t v i k b = 1000000) ∨ ∃ n, x = nI n ∧ n ≤ 20 * i ∧ ls + n ≤ 60 * i ∧ ∀ k b, wG t v i k b < 1000000 → ls ≤ b ∧ b ≤ ls + n)
theorem wAs_eq {ls n : Nat} (hb : zTb t) (hl : ls + n ≤ 60 * t 0) (h : ∀ k b, wG t v (t 0) k b < 1000000 → ls ≤ b ∧ b ≤ ls + n) : wmn (fun s => wmn (fun k => wG t v (t 0) k (ls + s)) 100) (n + 1) = wAs t v := by
  have hst := wSt hb
  have h12 : t 0 ≤ 12 := hb.1.2.1
  unfold wAs
  refine Nat.le_antisymm (wmn_ge (wmn_top _ _) (fun j hj => ?_)) (wmn_ge (wmn_top _ _) (fun s hs => wmn_ge (wmn_top _ _) (fun k hk => ?_)))
  · have h1 := wG_top t v (t 0) (j / 721) (j % 721)
    by_cases h2 : wG t v (t 0) (j / 721) (j % 721) < 1000000
    · have h3 := h _ _ h2
      have h4 := (wG_k hb (t 0) (Nat.le_refl _) _ _ h2).1
      have e1 := wmn_le (f := fun s => wmn (fun k => wG t v (t 0) k (ls + s)) 100) (n := n + 1) (j := j % 721 - ls) (by omega)
      have e2 := wmn_le (f := fun k => wG t v (t 0) k (ls + (j % 721 - ls))) (n := 100) (j := j / 721) (by omega)
      have e3 : ls + (j % 721 - ls) = j % 721 := by omega
      rw [e3] at e1 e2
      exact Nat.le_trans e1 e2
    · have := wmn_top (fun s => wmn (fun k => wG t v (t 0) k (ls + s)) 100) (n + 1)
      omega
  · have h1 := wG_top t v (t 0) k (ls + s)
    have e1 := wmn_le (f := fun j => wG t v (t 0) (j / 721) (j % 721)) (n := 72100) (j := 721 * k + (ls + s)) (by omega)
    have e2 : (721 * k + (ls + s)) / 721 = k := by omega
    have e3 : (721 * k + (ls + s)) % 721 = ls + s := by omega
    rw [e2, e3] at e1
    exact e1
theorem wroom {A g : Nat} {T : Nat} (hA : A ≤ 2000) (hT : T ≤ 99) : ∀ n, n ≤ 1000 → ((if (240 : Int32) < nI (10 * T) - nI A then 240 else nI (10 * T) - nI A) < nI n ↔ ¬ (n ≤ 240 ∧ A + n ≤ 10 * T)) := by
  intro n hn
  have e := wsub_toInt (X := 10 * T) (Y := A) (by omega) (by omega)
  have e240 : (240 : Int32).toInt = 240 := by decide
  by_cases c : (240 : Int32) < nI (10 * T) - nI A
  · rw [if_pos c]
    rw [zi_lt, e240, e] at c
    rw [zi_lt, e240, nI_toInt (by omega)]
    omega
  · rw [if_neg c]
    rw [zi_lt, e240, e] at c
    rw [zi_lt, e, nI_toInt (by omega)]
    omega
theorem s70 {i ls n : Nat} {room : Int32} (hb : zTb t) (hi : i < t 0) (hn : n ≤ 240) (hg : qg t v i < 1000000) (hroom : ∀ n, n ≤ 1000 → (room < nI n ↔ ¬ (n ≤ 240 ∧ ls + qg t v i + n ≤ 10 * t 10))) (hc : zTc M 1 t) (hk : zRo M) (hlk : wLk M t (wst t v i) v) (hr : ∀ k b, wG t v i k b < 1000000 → ls ≤ b ∧ b ≤ ls + n) (hT : wC (M 34) (fun s k => wG t v i k (ls + s))) : ∃ P', zden (L + 1) 70 0 [some (.ref 33), some (.int (nI n)), some (.int (nI (qg t v i))), some (.int room), some (.int (if 0 < i then 1 else 0)), none, none, none, none] [] M = some (none, P') ∧ (∀ j, j ≠ 34 → P' j = M j) ∧ wC (P' 34) (fun s k => wG t v (i + 1) k (ls + qg t v i + s)) := by
  obtain ⟨P', g1, g2, g3⟩ := s70_n (L := L) (room := room) hb hi hg hroom hc hk hlk (some (.int (nI n))) (n + 1) (by omega) M none none (fun j _ => rfl) (wC_c hT fun s k h1 h2 => aB_start hb hi hn h1 hr)
  refine ⟨P', ?_, g2, wC_c g3 fun s k h1 h2 => aB_fin hb hi h1 hg (fun k b h => (hr k b h).1)⟩
  rw [nI_dn] at g1
  rw [e70_0, s0_7, zbI_some, show M 4 7 = nI (t 11) from hc.2.1 7 (by omega), g1]
def wF3 (P M : zM) : Prop := ∀ j, j ≠ 27 → j ≠ 28 → j ≠ 34 → P j = M j
theorem zTc_f3 {P : zM} (h : wF3 P M) (hc : zTc M 1 t) : zTc P 1 t := zTc_c hc (h 1 (by omega) (by omega) (by omega)) fun k h1 h2 => h (1 + k) (by omega) (by omega) (by omega)
theorem zRo_f3 {P : zM} (h : wF3 P M) (hk : zRo M) : zRo P := zRo_of hk fun j hj => h j (zn62 hj (by omega)) (zn62 hj (by omega)) (zn62 hj (by omega))
theorem s73_l (hb : zTb t) (hc : zTc M 1 t) (hk : zRo M) : ∀ d i, d + i = t 0 → ∀ (P : zM) (ls : Nat) (x : Int32) (o5 o6 : Option Value), wF3 P M → wIv t v i ls x → wC (P 34) (fun s k => wG t v i k (ls + s)) → ∃ P', zden (L + 1) 73 33 [some (.ref 33), some (.int v), some (.int (nI ls)), some (.int x), some (.int (nI i)), o5, o6] [] P = some (some (.int (nI (wAs t v))), P') ∧ wF3 P' M := by
  have h12 : t 0 ≤ 12 := hb.1.2.1
  have hT99 : t 10 ≤ 99 := by have := hb.2.1; omega
  intro d
  induction d with
  | zero =>
    intro i hd P ls x o5 o6 hP hI hT
    have e : i = t 0 := by omega
    subst e
    have hcP := zTc_f3 hP hc
    refine ⟨P, ?_, hP⟩
    rw [e73_33, hcP.1.1, if_neg (nI_nlt (by omega) (by omega))]
    obtain ⟨hls, h | ⟨n, rfl, hn, hln, hr⟩⟩ := hI
    · rw [e72_0, e72_5, if_pos h.1, zbI_some, wAs_dead (Nat.le_refl _) h.2.2]
      rfl
    · rw [s72 (by omega) (fun s k => wG_top t v (t 0) k (ls + s)) hT, zbI_some, wAs_eq hb hln hr]
  | succ d ih =>
    intro i hd P ls x o5 o6 hP hI hT
    have hi : i < t 0 := by omega
    have hcP := zTc_f3 hP hc
    have hkP := zRo_f3 hP hk
    obtain ⟨Q, q1, q2, q3⟩ := s63 (L := L) (v := v) hb hcP hkP (wst_lt (v := v) hi)
    have hQ : wF3 Q M := fun j a b c => by rw [q2 j a b, hP j a b c]
    have hcQ := zTc_f3 hQ hc
    have hkQ := zRo_f3 hQ hk
    have hTQ : wC (Q 34) (fun s k => wG t v i k (ls + s)) := by rw [q2 34 (by omega) (by omega)]; exact hT
    have hgl : qg t v i ≤ 1000000 := by unfold qg; omega
    by_cases hg : qg t v i < 1000000
    · obtain ⟨mg, hmg, hqg, egq⟩ := qg_ex hg
      have hg60 : qg t v i ≤ 60 := by rw [egq]; exact qB_60 hb hi
      have hgh : qg t v i ≤ qh t v i := by rw [egq]; exact qh_ge hmg hqg
      have hh60 : qh t v i ≤ 60 ∧ qh t v i ≤ qg t v i + 20 := by
        rcases qh_ex (t := t) (v := v) (i := i) with e | ⟨m, h1, h2, h3⟩
        · omega
        · rw [h3]
          have := qB_60 (v := v) (m := m) hb hi
          have := q20 hb hi hmg h1 hqg h2
          omega
      have hls : ls ≤ 60 * i := hI.1
      have hA : ls + qg t v i ≤ 2000 := by omega
      have hroom := wroom (A := ls + qg t v i) (g := 0) (T := t 10) hA hT99
      have hAi := wsub_toInt (X := 10 * t 10) (Y := ls + qg t v i) (by omega) (by omega)
      have e240 : (240 : Int32).toInt = 240 := by decide
      have e0i : (0 : Int32).toInt = 0 := by decide
      generalize hrm : (if (240 : Int32) < nI (10 * t 10) - nI (ls + qg t v i) then 240 else nI (10 * t 10) - nI (ls + qg t v i)) = room at hroom
      -- the step itself
      have step : ∃ P1, zden (L + 1) 70 0 [some (.ref 33), some (.int x), some (.int (nI (qg t v i))), some (.int room), some (.int (if 0 < i then 1 else 0)), none, none, none, none] [] Q = some (none, P1) ∧ (∀ j, j ≠ 34 → P1 j = Q j) ∧ wC (P1 34) (fun s k => wG t v (i + 1) k (ls + qg t v i + s)) := by
        obtain ⟨_, h | ⟨n, rfl, hn, hln, hr⟩⟩ := hI
        · refine ⟨Q, ?_, fun j _ => rfl, wC_c hTQ fun s k _ _ => ?_⟩
          · rw [e70_0, s0_7, zbI_some, e70_14, if_pos h.1]
          · rw [h.2.2, wG_dead h.2.2 1]
        · exact s70 hb hi (by omega) hg hroom hcQ hkQ q3 hr hTQ
      obtain ⟨P1, p1, p2, p3⟩ := step
      have hP1 : wF3 P1 M := fun j a b c => by rw [p2 j c, hQ j a b c]
      have hlk1 : wLk P1 t (wst t v i) v := wLk_34 q3 p2
      have hnext : wIv t v (i + 1) (ls + qg t v i) (if x + nI (qh t v i) - nI (qg t v i) < room then x + nI (qh t v i) - nI (qg t v i) else room) := by
        refine ⟨by omega, ?_⟩
        have hneg : 10 * t 10 < ls + qg t v i → room < 0 := by
          intro hlt
          rw [← hrm]
          have c : ¬ (240 : Int32) < nI (10 * t 10) - nI (ls + qg t v i) := by rw [zi_lt, e240, hAi]; omega
          rw [if_neg c, zi_lt, hAi, e0i]
          omega
        by_cases hlt : 10 * t 10 < ls + qg t v i
        · have hr0 := hneg hlt
          refine Or.inl ⟨?_, hlt, ?_⟩
          · split
            · rename_i hy
              exact Int32.lt_trans hy hr0
            · exact hr0
          · intro k b
            have h1 := wG_top t v (i + 1) k b
            by_cases h2 : wG t v (i + 1) k b < 1000000
            · obtain ⟨m, hm, e1, hq, hb1, hb2, _, e2⟩ := wNx_ex h2
              have e : wG t v (i + 1) k b = wRR t i (wG t v i) (k + qU t v i m) (b - qB t v i m) + wbe m := e1.trans e2
              obtain ⟨j, hj⟩ := wRR_lt (show wRR t i (wG t v i) (k + qU t v i m) (b - qB t v i m) < 1000000 by omega)
              have hgq := qg_le hm hq
              obtain ⟨_, h | ⟨n, _, hn, hln, hr⟩⟩ := hI
              · rw [h.2.2] at hj; omega
              · have := hr _ _ hj
                omega
            · omega
        · obtain ⟨_, h | ⟨n, rfl, hn, hln, hr⟩⟩ := hI
          · omega
          · right
            have ey : nI n + nI (qh t v i) - nI (qg t v i) = nI (n + qh t v i - qg t v i) := by rw [nI_add, nI_sub (by omega)]
            have er : room = nI (min (10 * t 10 - (ls + qg t v i)) 240) := by
              rw [← hrm, nI_sub (by omega)]
              exact nI_min (a := 10 * t 10 - (ls + qg t v i)) (b := 240) (by omega) (by omega)
            refine ⟨min (min (10 * t 10 - (ls + qg t v i)) 240) (n + qh t v i - qg t v i), ?_, by omega, by omega, ?_⟩
            · rw [ey, er]
              exact nI_min (by omega) (by omega)
            · intro k b h2
              obtain ⟨m, hm, e1, hq, hb1, hb2, _, e2⟩ := wNx_ex h2
              have e : wG t v (i + 1) k b = wRR t i (wG t v i) (k + qU t v i m) (b - qB t v i m) + wbe m := e1.trans e2
              obtain ⟨j, hj⟩ := wRR_lt (show wRR t i (wG t v i) (k + qU t v i m) (b - qB t v i m) < 1000000 by omega)
              have hgq := qg_le hm hq
              have hhq := qh_ge hm hq
              have := hr _ _ hj
              omega
      obtain ⟨P2, r1, r2⟩ := ih (i + 1) (by omega) P1 (ls + qg t v i) _ (some (.int (nI (qg t v i)))) (some (.int room)) hP1 hnext p3
      refine ⟨P2, ?_, r2⟩
      rw [e73_33, hcP.1.1, if_pos (nI_lt (by omega) (by omega)), s57 v hcP hi, zbI_some, q1, zbV_some, s65 hb hcQ hi q3, zbI_some, if_pos (show nI (qg t v i) < 1000000 from nI_lt (b := 1000000) hg (by omega)), s0_6, zbI_some, show Q 4 6 = nI (t 10) from hcQ.2.1 6 (by omega), show (10 : Int32) = nI 10 from rfl, nI_mul, nI_add, s38, zbI_some, hrm]
      have fin : ∀ f : Int32, f = (if 0 < i then 1 else 0) → zden (L + 1) 73 122 [some (.ref 33), some (.int v), some (.int (nI (ls + qg t v i))), some (.int x), some (.int (nI i)), some (.int (nI (qg t v i))), some (.int room)] [.int f, .int room, .int (nI (qg t v i)), .int x, .ref 33] Q = some (some (.int (nI (wAs t v))), P2) := by
        intro f hf
        rw [hf, e73_122, p1, zbV_some, s71 hb (zTc_f3 hP1 hc) hi hlk1, zbI_some, s38, zbI_some, nI_1]
        exact r1
      by_cases h0 : 0 < i
      · rw [if_pos (show (0 : Int32) < nI i from nI_lt (a := 0) h0 (by omega))]
        exact fin 1 (by rw [if_pos h0])
      · have e : i = 0 := by omega
        rw [if_neg (show ¬ (0 : Int32) < nI i by rw [e]; decide)]
        exact fin 0 (by rw [if_neg h0])
    · refine ⟨Q, ?_, hQ⟩
      have hge : qg t v i = 1000000 := by omega
      rw [e73_33, hcP.1.1, if_pos (nI_lt (by omega) (by omega)), s57 v hcP hi, zbI_some, q1, zbV_some, s65 hb hcQ hi q3, zbI_some, hge, if_neg (by decide), wAs_dead (i := i + 1) (by omega) (wG_noq hb hi hge)]
      rfl
theorem s73 (hb : zTb t) (hc : zTc M 1 t) (hk : zRo M) : ∃ P', zden (L + 1) 73 0 [some (.ref 33), some (.int v), none, none, none, none, none] [] M = some (some (.int (nI (wAs t v))), P') ∧ wF3 P' M := by
  have hst := wSt hb
  have hcf : zTc (zfl M 34 24100 1000000) 1 t := zTc_34 hc fun i hi => zfl_row M hi
  obtain ⟨P', g1, g2⟩ := s73_l (L := L) (v := v) hb hc hk (t 0) 0 (by omega) (zput (zfl M 34 24100 1000000) 34 (t 11) 0) 0 (nI 0) none none (fun j a b c => by rw [zput_ne c, zfl_row M c]) ⟨by omega, Or.inr ⟨0, rfl, by omega, by omega, fun k b h => by
      have h' : (if k = t 11 ∧ b = 0 then 0 else 1000000) < 1000000 := h
      by_cases c : k = t 11 ∧ b = 0
      · omega
      · rw [if_neg c] at h'; omega⟩⟩ (fun s k hs hk2 => by
      show zput (zfl M 34 24100 1000000) 34 (t 11) 0 34 (100 * s + k) = nI (if k = t 11 ∧ 0 + s = 0 then 0 else 1000000)
      by_cases e : k = t 11 ∧ 0 + s = 0
      · rw [if_pos e, show 100 * s + k = t 11 by omega, zput_at]; rfl
      · rw [if_neg e, zput_o _ _ (Or.inr (by omega)), zfl_in _ (by omega)]; rfl)
  refine ⟨P', ?_, g2⟩
  rw [e73_0, s19_34, zbV_some, s0_7, zbI_some, show zfl M 34 24100 1000000 4 7 = nI (t 11) from hcf.2.1 7 (by omega), s5_34, zbV_some, zwr_nI (by omega) (by omega)]
  exact g1
theorem k_asleep (hk : zRo ro) (v : Int32) (hR : zRel M) (hro : ∀ i, zNW ≤ i → M i = ro i) : zSame L ro 116 195 [some (.ref 0), some (.int v), none] [some (.ref 48), some (.int v), none, none, none, none, none] M := by
  obtain ⟨t, hb, hc, hm, -⟩ := id hR
  have hkM := zRo_of hk hro
  obtain ⟨P, p1, p2⟩ := s73 (L := L) (v := v) hb hc hkM
  have hscr : ∀ i, zscr i = false → P i = M i := fun i hi => p2 i (zscr_ne hi (by decide)) (zscr_ne hi (by decide)) (zscr_ne hi (by decide))
  have hmP : zTm P 49 t := zTm_c hm (hscr 49 (by decide))
  obtain ⟨Q, q1, q2⟩ := s195 (L := L) (v := v) hb hmP
  have htop : wAs t v ≤ 1000000 := wmn_top _ _
  obtain ⟨r1, r2⟩ := zRel_g (M' := Q) hR hro (fun i hi => by rw [q2 i (zscr_ne hi (by decide)) (zscr_ne hi (by decide)), hscr i hi])
  refine ⟨if wAs t v = 1000000 then -4 else nI (wAs t v), P, Q, ?_, q1, r1, r2⟩
  rw [e116_0, p1, zbI_some]
  by_cases h : wAs t v = 1000000
  · rw [if_neg (show ¬ nI (wAs t v) < 1000000 from nI_nlt (b := 1000000) (by omega) (by omega)), e116_21, if_pos h]
  · rw [if_pos (show nI (wAs t v) < 1000000 from nI_lt (b := 1000000) (by omega) (by omega)), e116_21, if_neg h]
end KZ
