theorem wTk_p {t a u : Nat → Nat} {kd : Nat} (hkd : kd < 12) (h : zTp t) (hw : wall kd a (wNm kd) 0 = true) (hu : wTk t kd a = some u) : zTp u := by
  have h12 : kd = 0 ∨ kd = 1 ∨ kd = 2 ∨ kd = 3 ∨ kd = 4 ∨ kd = 5 ∨ kd = 6 ∨ kd = 7 ∨ kd = 8 ∨ kd = 9 ∨ kd = 10 ∨ kd = 11 := by omega
  rcases h12 with rfl | rfl | rfl | rfl | rfl | rfl | rfl | rfl | rfl | rfl | rfl | rfl
  · have hu2 : (if t 0 < 12 then some (wup1 (wup1 (wup1 t 0 (t 0 + 1)) (16 + t 0) (a 0)) (28 + t 0) (a 1)) else none) = some u := hu
    by_cases hg : t 0 < 12
    · rw [if_pos hg] at hu2
      cases hu2
      exact wTk_p0 h hw hg
    · rw [if_neg hg] at hu2
      cases hu2
  · have hu2 : some (wup1 (wup1 (wup1 t 4 (a 0)) 5 (a 1)) 6 (a 2)) = some u := hu
    cases hu2
    exact wTk_p1 h hw
  · have hu2 : some (wup1 t 7 (a 0)) = some u := hu
    cases hu2
    exact wTk_p2 h hw
  · have hu2 : some (wup1 (wup1 (wup1 t 8 (a 0)) 9 (a 1)) 10 (a 2)) = some u := hu
    cases hu2
    exact wTk_p3 h hw
  · have hu2 : some (wup1 (wup1 t 11 (a 0)) 12 (a 1)) = some u := hu
    cases hu2
    exact wTk_p4 h hw
  · have hu2 : (if t 1 < 4 then some (wup1 (wup1 (wup1 t 1 (t 1 + 1)) (40 + t 1) (a 0)) (44 + t 1) (a 1)) else none) = some u := hu
    by_cases hg : t 1 < 4
    · rw [if_pos hg] at hu2
      cases hu2
      exact wTk_p5 h hw hg
    · rw [if_neg hg] at hu2
      cases hu2
  · have hu2 : some (wup1 t (48 + a 0) (a 1)) = some u := hu
    cases hu2
    exact wTk_p6 h hw
  · have hu2 : some (wup1 (wup1 t 13 (a 0)) 14 (a 1)) = some u := hu
    cases hu2
    exact wTk_p7 h hw
  · have hu2 : some (wup1 t 15 (a 0)) = some u := hu
    cases hu2
    exact wTk_p8 h hw
  · have hu2 : (if t 2 < 7 then some (wup1 (wup1 t 2 (t 2 + 1)) (72 + t 2) (a 0)) else none) = some u := hu
    by_cases hg : t 2 < 7
    · rw [if_pos hg] at hu2
      cases hu2
      exact wTk_p9 h hw hg
    · rw [if_neg hg] at hu2
      cases hu2
  · have hu2 : (if t 3 < 10 ∧ a 0 < t 2 ∧ a 1 < t 2 ∧ a 0 ≠ a 1 then some (wup1 (wup1 (wup1 (wup1 t 3 (t 3 + 1)) (86 + t 3) (a 0)) (96 + t 3) (a 1)) (106 + t 3) (a 2)) else none) = some u := hu
    by_cases hg : t 3 < 10 ∧ a 0 < t 2 ∧ a 1 < t 2 ∧ a 0 ≠ a 1
    · rw [if_pos hg] at hu2
      cases hu2
      exact wTk_p10 h hw hg
    · rw [if_neg hg] at hu2
      cases hu2
  · have hu2 : (if a 0 < t 2 then some (wup1 t (79 + a 0) 1) else none) = some u := hu
    by_cases hg : a 0 < t 2
    · rw [if_pos hg] at hu2
      cases hu2
      exact wTk_p11 h hw hg
    · rw [if_neg hg] at hu2
      cases hu2
section KP
variable {L : Nat} {ro M : zM} {n : Nat} {X t : Nat → Nat}
theorem s55_1_l {kd many c : Nat} (hX : wTxt n X) (hC : wTc M n X) (hk : zRo M) (hkd : kd < 12) (hmany : many ≤ 3) (o1 : Option Value) : ∀ d k, d + k = many → ∀ (p : Nat) (a : Nat → Nat) (P : zM) (o8 o9 o10 : Option Value), p ≤ n → (∀ i, i ≠ 25 → P i = M i) → (∀ j, j < k → P 25 j = nI (a j)) → match wtb X kd d k p a with
    | none => ∃ P', zden (L + 1) 55 39 [some (.ref 23), o1, some (.ref 1), some (.int (nI c)), some (.int (nI kd)), some (.int (nI many)), some (.int (nI p)), some (.int (nI k)), o8, o9, o10] [] P = some (some (.int (-1)), P') ∧ ∀ i, i ≠ 25 → P' i = M i
    | some r => ∃ P' x8 x9 x10, zden (L + 1) 55 39 [some (.ref 23), o1, some (.ref 1), some (.int (nI c)), some (.int (nI kd)), some (.int (nI many)), some (.int (nI p)), some (.int (nI k)), o8, o9, o10] [] P = zden (L + 1) 55 39 [some (.ref 23), o1, some (.ref 1), some (.int (nI c)), some (.int (nI kd)), some (.int (nI many)), some (.int (nI r.2)), some (.int (nI many)), x8, x9, x10] [] P' ∧ (∀ i, i ≠ 25 → P' i = M i) ∧ ∀ j, j < many → P' 25 j = nI (r.1 j) := by
  have h200 := hX.1
  intro d
  induction d with
  | zero =>
    intro k hd p a P o8 o9 o10 hp hP ha
    have e : k = many := by omega
    subst e
    exact ⟨P, o8, o9, o10, rfl, hP, ha⟩
  | succ d ih =>
    intro k hd p a P o8 o9 o10 hp hP ha
    have hCP : wTc P n X := ⟨by rw [hP 23 (by omega)]; exact hC.1, fun j hj => by rw [hP 24 (by omega)]; exact hC.2 j hj⟩
    have hkP : zRo P := zRo_of hk fun i hi => hP i (zn62 hi (by omega))
    have hfl := wfg_le (X := X) (p := p)
    have hnl := wnu_le (X := X) (p := p)
    have hlo := wLo_le (3 * kd + k) (by omega)
    have e65 : P 65 (3 * kd + k) = nI (wLo (3 * kd + k)) := hkP.2.2.1 _ (by omega)
    have e66 : P 66 (3 * kd + k) = nI (wHi (3 * kd + k)) := hkP.2.2.2.1 _ (by omega)
    have hX2 := wTxt_lt hX (p + wfg X p)
    have hsp := wsep_n d
    have eb : zrng (nI (wnu X p)) (nI (wLo (3 * kd + k))) (nI (wHi (3 * kd + k))) = wbd kd k (wnu X p) := zrng_nn (by omega) (by omega) (by omega)
    -- up to the number
    have h1 : zden (L + 1) 55 39 [some (.ref 23), o1, some (.ref 1), some (.int (nI c)), some (.int (nI kd)), some (.int (nI many)), some (.int (nI p)), some (.int (nI k)), o8, o9, o10] [] P = if wfg X p = 0 then some (some (.int (-1)), P) else if wbd kd k (wnu X p) = true then (if X (p + wfg X p) = wsep d then zden (L + 1) 55 39 [some (.ref 23), o1, some (.ref 1), some (.int (nI c)), some (.int (nI kd)), some (.int (nI many)), some (.int (nI (p + wfg X p + 1))), some (.int (nI (k + 1))), some (.int (nI (wfg X p))), some (.int (nI (3 * kd + k))), some (.int (nI (wnu X p)))] [] (zput P 25 k (nI (wnu X p))) else some (some (.int (-1)), zput P 25 k (nI (wnu X p)))) else some (some (.int (-1)), P) := by
      have hC2 : wTc (zput P 25 k (nI (wnu X p))) n X := ⟨by rw [zput_ne (by omega)]; exact hCP.1, fun j hj => by rw [zput_ne (by omega)]; exact hCP.2 j hj⟩
      rw [e55_23_1_39, if_pos (nI_lt (by omega) (by omega)), s44 hX hCP (by omega), zbI_some, s45 hX hCP (by omega), zbI_some, show (3 : Int32) = nI 3 from rfl, nI_mul, nI_add]
      by_cases f0 : wfg X p = 0
      · rw [if_pos f0, if_pos (show nI (wfg X p) = 0 by rw [f0]; rfl), e55_23_1_102]
      · rw [if_neg f0, if_neg (nI_ne0 (by omega) (by omega)), s4_65, zbI_some, zrd_nI (by omega), if_pos (show 3 * kd + k < 36 by omega), e65, s4_66, zbI_some, zrd_nI (by omega), if_pos (show 3 * kd + k < 36 by omega), e66, s46r, zbI_some, eb]
        cases hbd : wbd kd k (wnu X p)
        · rw [if_pos (show zb false = 0 from rfl), e55_23_1_102]; rfl
        · rw [if_neg (show ¬ zb true = 0 by decide), if_pos rfl, s5_25, zbV_some, zwr_nI (by omega) (by omega), nI_add, s33 hX hC2 (by omega), zbI_some]
          have sep : ∀ s, s = wsep d → zden (L + 1) 55 144 [some (.ref 23), o1, some (.ref 1), some (.int (nI c)), some (.int (nI kd)), some (.int (nI many)), some (.int (nI (p + wfg X p))), some (.int (nI k)), some (.int (nI (wfg X p))), some (.int (nI (3 * kd + k))), some (.int (nI (wnu X p)))] [.int (nI s), .int (nI (X (p + wfg X p)))] (zput P 25 k (nI (wnu X p))) = if X (p + wfg X p) = wsep d then zden (L + 1) 55 39 [some (.ref 23), o1, some (.ref 1), some (.int (nI c)), some (.int (nI kd)), some (.int (nI many)), some (.int (nI (p + wfg X p + 1))), some (.int (nI (k + 1))), some (.int (nI (wfg X p))), some (.int (nI (3 * kd + k))), some (.int (nI (wnu X p)))] [] (zput P 25 k (nI (wnu X p))) else some (some (.int (-1)), zput P 25 k (nI (wnu X p))) := by
            intro s hs
            rw [e55_23_1_144, nI_1, nI_1, hs]
            by_cases hc : X (p + wfg X p) = wsep d
            · rw [if_pos (by rw [hc]), if_pos hc]
            · rw [if_neg (fun q => hc ((nI_eq (by omega) (by omega)).mp q)), if_neg hc]
          by_cases hd0 : d = 0
          · rw [if_pos (show nI k = nI many - 1 by rw [show (1 : Int32) = nI 1 from rfl, nI_sub (by omega)]; congr 1; omega)]
            exact sep 59 (by unfold wsep; rw [if_pos hd0])
          · rw [if_neg (show ¬ nI k = nI many - 1 by rw [show (1 : Int32) = nI 1 from rfl, nI_sub (by omega)]; exact fun q => by have := (nI_eq (by omega) (by omega)).mp q; omega)]
            exact sep 44 (by unfold wsep; rw [if_neg hd0])
    rw [h1]
    unfold wtb
    cases hn : wn1 X p (wsep d) with
    | none =>
      dsimp only
      unfold wn1 at hn
      by_cases f0 : wfg X p = 0
      · rw [if_pos f0]; exact ⟨P, rfl, hP⟩
      · rw [if_neg f0] at hn ⊢
        by_cases hs : X (p + wfg X p) = wsep d
        · rw [if_pos hs] at hn; cases hn
        · rw [if_neg hs]
          split
          · exact ⟨_, rfl, fun i hi => by rw [zput_ne hi, hP i hi]⟩
          · exact ⟨P, rfl, hP⟩
    | some r =>
      dsimp only
      obtain ⟨f0, hs, rfl⟩ := wn1_s hn
      obtain ⟨_, _, hr2, _⟩ := wn1_lt hX hn
      dsimp only at hr2 ⊢
      rw [if_neg f0, if_pos hs]
      cases hbd : wbd kd k (wnu X p)
      · exact ⟨P, rfl, hP⟩
      · rw [if_pos rfl, if_pos rfl]
        exact ih (k + 1) (by omega) (p + wfg X p + 1) (wup1 a k (wnu X p)) (zput P 25 k (nI (wnu X p))) _ _ _ hr2 (fun i hi => by rw [zput_ne hi, hP i hi]) (fun j hj => by
          by_cases e : j = k
          · rw [e, zput_at, wup1_at]
          · rw [zput_o _ _ (Or.inr e), wup1_o e, ha j (by omega)])
theorem s55_1 {p : Nat} (hX : wTxt n X) (hC : wTc M n X) (hk : zRo M) (hp : p < n) (hv : zTv M 1 t) (hpp : zTp t) : match wIt X p t with
    | none => ∃ P, zden (L + 1) 55 0 [some (.ref 23), some (.int (nI p)), some (.ref 1), none, none, none, none, none, none, none, none] [] M = some (some (.int (-1)), P) ∧ (∀ i, i ≠ 25 → (i < 1 ∨ 11 < i) → P i = M i) ∧ zTv P 1 t
    | some r => ∃ P, zden (L + 1) 55 0 [some (.ref 23), some (.int (nI p)), some (.ref 1), none, none, none, none, none, none, none, none] [] M = some (some (.int (nI r.1)), P) ∧ (∀ i, i ≠ 25 → (i < 1 ∨ 11 < i) → P i = M i) ∧ zTv P 1 r.2 ∧ zTp r.2 ∧ p < r.1 ∧ r.1 ≤ n := by
  have h200 := hX.1
  have hlt := wTxt_lt hX p
  have hkl := wki_le (X p)
  unfold wIt
  have e0 : zden (L + 1) 55 0 [some (.ref 23), some (.int (nI p)), some (.ref 1), none, none, none, none, none, none, none, none] [] M = if wki (X p) = 12 then some (some (.int (-1)), M) else zden (L + 1) 55 39 [some (.ref 23), some (.int (nI p)), some (.ref 1), some (.int (nI (X p))), some (.int (nI (wki (X p)))), some (.int (nI (wNm (wki (X p))))), some (.int (nI (p + 1))), some (.int (nI 0)), none, none, none] [] M := by
    rw [e55_23_1_0, s33 hX hC (by omega), zbI_some, s42 hk hlt, zbI_some]
    by_cases h : wki (X p) = 12
    · rw [if_pos h, if_pos (show (-1 : Int32) < 0 by decide), if_pos h]
    · have e64 : M 64 (wki (X p)) = nI (wNm (wki (X p))) := hk.2.1 _ (by omega)
      rw [if_neg h, if_neg (nI_pos (by omega)), if_neg h, s4_64, zbI_some, zrd_nI (by omega), if_pos (by omega), e64, nI_1]
      rfl
  rw [e0]
  by_cases h : wki (X p) = 12
  · rw [if_pos h, if_pos h]
    exact ⟨M, rfl, fun i _ _ => rfl, hv⟩
  · rw [if_neg h, if_neg h]
    have hkd : wki (X p) < 12 := by omega
    have hm := wNm_le _ hkd
    have hl := s55_1_l (L := L) (kd := wki (X p)) (many := wNm (wki (X p))) (c := X p) hX hC hk hkd hm.2 (some (.int (nI p))) (wNm (wki (X p))) 0 (by omega) (p + 1) (fun _ => 0) M none none none (by omega) (fun i _ => rfl) (fun j hj => by omega)
    cases hb : wtb X (wki (X p)) (wNm (wki (X p))) 0 (p + 1) (fun _ => 0) with
    | none =>
      rw [hb] at hl
      obtain ⟨P, p1, p2⟩ := hl
      exact ⟨P, p1, fun i hi _ => p2 i hi, zTv_c hv fun i h1 h2 => p2 i (by omega)⟩
    | some r =>
      rw [hb] at hl
      obtain ⟨P, x8, x9, x10, p1, p2, p3⟩ := hl
      dsimp only at p1 p3 ⊢
      have hvP : zTv P 1 t := zTv_c hv fun i h1 h2 => p2 i (by omega)
      have hwall : wall (wki (X p)) r.1 (wNm (wki (X p))) 0 = true ∧ p + 1 ≤ r.2 ∧ r.2 ≤ n := by
        rw [wtb_eq] at hb
        cases hq : wtk X (wNm (wki (X p))) 0 (p + 1) (fun _ => 0) with
        | none => rw [hq] at hb; cases hb
        | some s =>
          rw [hq] at hb
          dsimp only at hb
          by_cases hw : wall (wki (X p)) s.1 (wNm (wki (X p))) 0 = true
          · rw [if_pos hw] at hb
            cases hb
            have := wtk_lt hX (b := r.1) (q := r.2) (by omega) hq
            exact ⟨hw, this.1, this.2.1⟩
          · rw [if_neg hw] at hb; cases hb
      have h54 := s54_1 (L := L) hkd hvP hpp hwall.1 p3
      rw [wki_at hkd] at h54
      have e1 : ∀ (o8 o9 o10 : Option Value), zden (L + 1) 55 39 [some (.ref 23), some (.int (nI p)), some (.ref 1), some (.int (nI (X p))), some (.int (nI (wki (X p)))), some (.int (nI (wNm (wki (X p))))), some (.int (nI r.2)), some (.int (nI (wNm (wki (X p))))), o8, o9, o10] [] P = zbI (zden (L + 1) 54 0 [some (.ref 1), some (.int (nI (X p))), some (.ref 25), none, none] [] P) (fun r1 M1 => if r1 = 0 then some (some (.int (-1)), M1) else some (some (.int (nI r.2)), M1)) := by
        intro o8 o9 o10
        rw [e55_23_1_39, if_neg (nI_nlt (by omega) (by omega))]
        congr 1
        funext r1 M1
        by_cases hr : r1 = 0
        · rw [if_pos hr, if_pos hr, e55_23_1_176]
        · rw [if_neg hr, if_neg hr, e55_23_1_176]
      rw [p1, e1]
      cases hT : wTk t (wki (X p)) r.1 with
      | none =>
        rw [hT] at h54
        dsimp only at h54 ⊢
        rw [h54, zbI_some, if_pos rfl]
        exact ⟨P, rfl, fun i hi _ => p2 i hi, hvP⟩
      | some u =>
        rw [hT] at h54
        dsimp only at h54 ⊢
        obtain ⟨Q, q1, q2, q3⟩ := h54
        rw [q1, zbI_some, if_neg (by decide)]
        exact ⟨Q, rfl, fun i hi h2 => by rw [q2 i h2, p2 i hi], q3, wTk_p hkd hpp hwall.1 hT, by omega, hwall.2.2⟩
theorem s56_1_l (hX : wTxt n X) (hC : wTc M n X) (hk : zRo M) : ∀ f k, f + k = 200 → ∀ (p : Nat) (u : Nat → Nat) (P : zM) (o4 : Option Value), p ≤ n → (∀ i, i ≠ 25 → (i < 1 ∨ 11 < i) → P i = M i) → zTv P 1 u → zTp u → ∃ P', zden (L + 1) 56 8 [some (.ref 23), some (.ref 1), some (.int (nI p)), some (.int (nI k)), o4] [] P = some (some (.int (wRd X n f p u).1), P') ∧ (∀ i, i ≠ 25 → (i < 1 ∨ 11 < i) → P' i = M i) ∧ zTv P' 1 (wRd X n f p u).2 ∧ zTp (wRd X n f p u).2 := by
  have h200 := hX.1
  intro f
  induction f with
  | zero =>
    intro k hk2 p u P o4 hp hP hv hpp
    refine ⟨P, ?_, hP, hv, hpp⟩
    rw [e56_23_1_8, if_neg (show ¬ nI k < 200 from nI_nlt (b := 200) (by omega) (by omega)), e56_23_1_48]; rfl
  | succ f ih =>
    intro k hk2 p u P o4 hp hP hv hpp
    have hCP : wTc P n X := ⟨by rw [hP 23 (by omega) (by omega)]; exact hC.1, fun j hj => by rw [hP 24 (by omega) (by omega)]; exact hC.2 j hj⟩
    have hkP : zRo P := zRo_of hk fun i hi => hP i (zn62 hi (by omega)) (Or.inr (by have : zNW = 62 := rfl; omega))
    rw [e56_23_1_8, if_pos (show nI k < 200 from nI_lt (b := 200) (by omega) (by omega)), hCP.1]
    unfold wRd
    by_cases h : p < n
    · rw [if_pos (nI_lt h (by omega)), if_pos h]
      have h55 := s55_1 (L := L) hX hCP hkP h hv hpp
      cases hI : wIt X p u with
      | none =>
        rw [hI] at h55
        obtain ⟨Q, q1, q2, q3⟩ := h55
        dsimp only
        refine ⟨Q, ?_, fun i h1 h2 => by rw [q2 i h1 h2, hP i h1 h2], q3, hpp⟩
        rw [q1, zbI_some, if_neg (show ¬ nI p < -1 from fun q => nI_pos (n := p) (by omega) (Int32.lt_trans q (by decide)))]
      | some r =>
        rw [hI] at h55
        dsimp only at h55 ⊢
        obtain ⟨Q, q1, q2, q3, q4, q5, q6⟩ := h55
        obtain ⟨P', g1, g2⟩ := ih (k + 1) (by omega) r.1 r.2 Q (some (.int (nI r.1))) q6 (fun i h1 h2 => by rw [q2 i h1 h2, hP i h1 h2]) q3 q4
        refine ⟨P', ?_, g2⟩
        rw [q1, zbI_some, if_pos (nI_lt q5 (by omega)), nI_1, g1]
    · rw [if_neg (nI_nlt (by omega) (by omega)), if_neg h, e56_23_1_48]
      exact ⟨P, rfl, hP, hv, hpp⟩
end KP
section KP
variable {L : Nat} {ro M : zM} {n : Nat} {X t : Nat → Nat}
theorem s55_12_l {kd many c : Nat} (hX : wTxt n X) (hC : wTc M n X) (hk : zRo M) (hkd : kd < 12) (hmany : many ≤ 3) (o1 : Option Value) : ∀ d k, d + k = many → ∀ (p : Nat) (a : Nat → Nat) (P : zM) (o8 o9 o10 : Option Value), p ≤ n → (∀ i, i ≠ 25 → P i = M i) → (∀ j, j < k → P 25 j = nI (a j)) → match wtb X kd d k p a with
    | none => ∃ P', zden (L + 1) 55 39 [some (.ref 23), o1, some (.ref 12), some (.int (nI c)), some (.int (nI kd)), some (.int (nI many)), some (.int (nI p)), some (.int (nI k)), o8, o9, o10] [] P = some (some (.int (-1)), P') ∧ ∀ i, i ≠ 25 → P' i = M i
    | some r => ∃ P' x8 x9 x10, zden (L + 1) 55 39 [some (.ref 23), o1, some (.ref 12), some (.int (nI c)), some (.int (nI kd)), some (.int (nI many)), some (.int (nI p)), some (.int (nI k)), o8, o9, o10] [] P = zden (L + 1) 55 39 [some (.ref 23), o1, some (.ref 12), some (.int (nI c)), some (.int (nI kd)), some (.int (nI many)), some (.int (nI r.2)), some (.int (nI many)), x8, x9, x10] [] P' ∧ (∀ i, i ≠ 25 → P' i = M i) ∧ ∀ j, j < many → P' 25 j = nI (r.1 j) := by
  have h200 := hX.1
  intro d
  induction d with
  | zero =>
    intro k hd p a P o8 o9 o10 hp hP ha
    have e : k = many := by omega
    subst e
    exact ⟨P, o8, o9, o10, rfl, hP, ha⟩
  | succ d ih =>
    intro k hd p a P o8 o9 o10 hp hP ha
    have hCP : wTc P n X := ⟨by rw [hP 23 (by omega)]; exact hC.1, fun j hj => by rw [hP 24 (by omega)]; exact hC.2 j hj⟩
    have hkP : zRo P := zRo_of hk fun i hi => hP i (zn62 hi (by omega))
    have hfl := wfg_le (X := X) (p := p)
    have hnl := wnu_le (X := X) (p := p)
    have hlo := wLo_le (3 * kd + k) (by omega)
    have e65 : P 65 (3 * kd + k) = nI (wLo (3 * kd + k)) := hkP.2.2.1 _ (by omega)
    have e66 : P 66 (3 * kd + k) = nI (wHi (3 * kd + k)) := hkP.2.2.2.1 _ (by omega)
    have hX2 := wTxt_lt hX (p + wfg X p)
    have hsp := wsep_n d
    have eb : zrng (nI (wnu X p)) (nI (wLo (3 * kd + k))) (nI (wHi (3 * kd + k))) = wbd kd k (wnu X p) := zrng_nn (by omega) (by omega) (by omega)
    -- up to the number
    have h1 : zden (L + 1) 55 39 [some (.ref 23), o1, some (.ref 12), some (.int (nI c)), some (.int (nI kd)), some (.int (nI many)), some (.int (nI p)), some (.int (nI k)), o8, o9, o10] [] P = if wfg X p = 0 then some (some (.int (-1)), P) else if wbd kd k (wnu X p) = true then (if X (p + wfg X p) = wsep d then zden (L + 1) 55 39 [some (.ref 23), o1, some (.ref 12), some (.int (nI c)), some (.int (nI kd)), some (.int (nI many)), some (.int (nI (p + wfg X p + 1))), some (.int (nI (k + 1))), some (.int (nI (wfg X p))), some (.int (nI (3 * kd + k))), some (.int (nI (wnu X p)))] [] (zput P 25 k (nI (wnu X p))) else some (some (.int (-1)), zput P 25 k (nI (wnu X p)))) else some (some (.int (-1)), P) := by
      have hC2 : wTc (zput P 25 k (nI (wnu X p))) n X := ⟨by rw [zput_ne (by omega)]; exact hCP.1, fun j hj => by rw [zput_ne (by omega)]; exact hCP.2 j hj⟩
      rw [e55_23_12_39, if_pos (nI_lt (by omega) (by omega)), s44 hX hCP (by omega), zbI_some, s45 hX hCP (by omega), zbI_some, show (3 : Int32) = nI 3 from rfl, nI_mul, nI_add]
      by_cases f0 : wfg X p = 0
      · rw [if_pos f0, if_pos (show nI (wfg X p) = 0 by rw [f0]; rfl), e55_23_12_102]
      · rw [if_neg f0, if_neg (nI_ne0 (by omega) (by omega)), s4_65, zbI_some, zrd_nI (by omega), if_pos (show 3 * kd + k < 36 by omega), e65, s4_66, zbI_some, zrd_nI (by omega), if_pos (show 3 * kd + k < 36 by omega), e66, s46r, zbI_some, eb]
        cases hbd : wbd kd k (wnu X p)
        · rw [if_pos (show zb false = 0 from rfl), e55_23_12_102]; rfl
        · rw [if_neg (show ¬ zb true = 0 by decide), if_pos rfl, s5_25, zbV_some, zwr_nI (by omega) (by omega), nI_add, s33 hX hC2 (by omega), zbI_some]
          have sep : ∀ s, s = wsep d → zden (L + 1) 55 144 [some (.ref 23), o1, some (.ref 12), some (.int (nI c)), some (.int (nI kd)), some (.int (nI many)), some (.int (nI (p + wfg X p))), some (.int (nI k)), some (.int (nI (wfg X p))), some (.int (nI (3 * kd + k))), some (.int (nI (wnu X p)))] [.int (nI s), .int (nI (X (p + wfg X p)))] (zput P 25 k (nI (wnu X p))) = if X (p + wfg X p) = wsep d then zden (L + 1) 55 39 [some (.ref 23), o1, some (.ref 12), some (.int (nI c)), some (.int (nI kd)), some (.int (nI many)), some (.int (nI (p + wfg X p + 1))), some (.int (nI (k + 1))), some (.int (nI (wfg X p))), some (.int (nI (3 * kd + k))), some (.int (nI (wnu X p)))] [] (zput P 25 k (nI (wnu X p))) else some (some (.int (-1)), zput P 25 k (nI (wnu X p))) := by
            intro s hs
            rw [e55_23_12_144, nI_1, nI_1, hs]
            by_cases hc : X (p + wfg X p) = wsep d
            · rw [if_pos (by rw [hc]), if_pos hc]
            · rw [if_neg (fun q => hc ((nI_eq (by omega) (by omega)).mp q)), if_neg hc]
          by_cases hd0 : d = 0
          · rw [if_pos (show nI k = nI many - 1 by rw [show (1 : Int32) = nI 1 from rfl, nI_sub (by omega)]; congr 1; omega)]
            exact sep 59 (by unfold wsep; rw [if_pos hd0])
          · rw [if_neg (show ¬ nI k = nI many - 1 by rw [show (1 : Int32) = nI 1 from rfl, nI_sub (by omega)]; exact fun q => by have := (nI_eq (by omega) (by omega)).mp q; omega)]
            exact sep 44 (by unfold wsep; rw [if_neg hd0])
    rw [h1]
    unfold wtb
    cases hn : wn1 X p (wsep d) with
    | none =>
      dsimp only
      unfold wn1 at hn
      by_cases f0 : wfg X p = 0
      · rw [if_pos f0]; exact ⟨P, rfl, hP⟩
      · rw [if_neg f0] at hn ⊢
        by_cases hs : X (p + wfg X p) = wsep d
        · rw [if_pos hs] at hn; cases hn
        · rw [if_neg hs]
          split
          · exact ⟨_, rfl, fun i hi => by rw [zput_ne hi, hP i hi]⟩
          · exact ⟨P, rfl, hP⟩
    | some r =>
      dsimp only
      obtain ⟨f0, hs, rfl⟩ := wn1_s hn
      obtain ⟨_, _, hr2, _⟩ := wn1_lt hX hn
      dsimp only at hr2 ⊢
      rw [if_neg f0, if_pos hs]
      cases hbd : wbd kd k (wnu X p)
      · exact ⟨P, rfl, hP⟩
      · rw [if_pos rfl, if_pos rfl]
        exact ih (k + 1) (by omega) (p + wfg X p + 1) (wup1 a k (wnu X p)) (zput P 25 k (nI (wnu X p))) _ _ _ hr2 (fun i hi => by rw [zput_ne hi, hP i hi]) (fun j hj => by
          by_cases e : j = k
          · rw [e, zput_at, wup1_at]
          · rw [zput_o _ _ (Or.inr e), wup1_o e, ha j (by omega)])
theorem s55_12 {p : Nat} (hX : wTxt n X) (hC : wTc M n X) (hk : zRo M) (hp : p < n) (hv : zTv M 12 t) (hpp : zTp t) : match wIt X p t with
    | none => ∃ P, zden (L + 1) 55 0 [some (.ref 23), some (.int (nI p)), some (.ref 12), none, none, none, none, none, none, none, none] [] M = some (some (.int (-1)), P) ∧ (∀ i, i ≠ 25 → (i < 12 ∨ 22 < i) → P i = M i) ∧ zTv P 12 t
    | some r => ∃ P, zden (L + 1) 55 0 [some (.ref 23), some (.int (nI p)), some (.ref 12), none, none, none, none, none, none, none, none] [] M = some (some (.int (nI r.1)), P) ∧ (∀ i, i ≠ 25 → (i < 12 ∨ 22 < i) → P i = M i) ∧ zTv P 12 r.2 ∧ zTp r.2 ∧ p < r.1 ∧ r.1 ≤ n := by
  have h200 := hX.1
  have hlt := wTxt_lt hX p
  have hkl := wki_le (X p)
  unfold wIt
  have e0 : zden (L + 1) 55 0 [some (.ref 23), some (.int (nI p)), some (.ref 12), none, none, none, none, none, none, none, none] [] M = if wki (X p) = 12 then some (some (.int (-1)), M) else zden (L + 1) 55 39 [some (.ref 23), some (.int (nI p)), some (.ref 12), some (.int (nI (X p))), some (.int (nI (wki (X p)))), some (.int (nI (wNm (wki (X p))))), some (.int (nI (p + 1))), some (.int (nI 0)), none, none, none] [] M := by
    rw [e55_23_12_0, s33 hX hC (by omega), zbI_some, s42 hk hlt, zbI_some]
    by_cases h : wki (X p) = 12
    · rw [if_pos h, if_pos (show (-1 : Int32) < 0 by decide), if_pos h]
    · have e64 : M 64 (wki (X p)) = nI (wNm (wki (X p))) := hk.2.1 _ (by omega)
      rw [if_neg h, if_neg (nI_pos (by omega)), if_neg h, s4_64, zbI_some, zrd_nI (by omega), if_pos (by omega), e64, nI_1]
      rfl
  rw [e0]
  by_cases h : wki (X p) = 12
  · rw [if_pos h, if_pos h]
    exact ⟨M, rfl, fun i _ _ => rfl, hv⟩
  · rw [if_neg h, if_neg h]
    have hkd : wki (X p) < 12 := by omega
    have hm := wNm_le _ hkd
    have hl := s55_12_l (L := L) (kd := wki (X p)) (many := wNm (wki (X p))) (c := X p) hX hC hk hkd hm.2 (some (.int (nI p))) (wNm (wki (X p))) 0 (by omega) (p + 1) (fun _ => 0) M none none none (by omega) (fun i _ => rfl) (fun j hj => by omega)
    cases hb : wtb X (wki (X p)) (wNm (wki (X p))) 0 (p + 1) (fun _ => 0) with
    | none =>
      rw [hb] at hl
      obtain ⟨P, p1, p2⟩ := hl
      exact ⟨P, p1, fun i hi _ => p2 i hi, zTv_c hv fun i h1 h2 => p2 i (by omega)⟩
    | some r =>
      rw [hb] at hl
      obtain ⟨P, x8, x9, x10, p1, p2, p3⟩ := hl
      dsimp only at p1 p3 ⊢
      have hvP : zTv P 12 t := zTv_c hv fun i h1 h2 => p2 i (by omega)
      have hwall : wall (wki (X p)) r.1 (wNm (wki (X p))) 0 = true ∧ p + 1 ≤ r.2 ∧ r.2 ≤ n := by
        rw [wtb_eq] at hb
        cases hq : wtk X (wNm (wki (X p))) 0 (p + 1) (fun _ => 0) with
        | none => rw [hq] at hb; cases hb
        | some s =>
          rw [hq] at hb
          dsimp only at hb
          by_cases hw : wall (wki (X p)) s.1 (wNm (wki (X p))) 0 = true
          · rw [if_pos hw] at hb
            cases hb
            have := wtk_lt hX (b := r.1) (q := r.2) (by omega) hq
            exact ⟨hw, this.1, this.2.1⟩
          · rw [if_neg hw] at hb; cases hb
      have h54 := s54_12 (L := L) hkd hvP hpp hwall.1 p3
      rw [wki_at hkd] at h54
      have e1 : ∀ (o8 o9 o10 : Option Value), zden (L + 1) 55 39 [some (.ref 23), some (.int (nI p)), some (.ref 12), some (.int (nI (X p))), some (.int (nI (wki (X p)))), some (.int (nI (wNm (wki (X p))))), some (.int (nI r.2)), some (.int (nI (wNm (wki (X p))))), o8, o9, o10] [] P = zbI (zden (L + 1) 54 0 [some (.ref 12), some (.int (nI (X p))), some (.ref 25), none, none] [] P) (fun r1 M1 => if r1 = 0 then some (some (.int (-1)), M1) else some (some (.int (nI r.2)), M1)) := by
        intro o8 o9 o10
        rw [e55_23_12_39, if_neg (nI_nlt (by omega) (by omega))]
        congr 1
        funext r1 M1
        by_cases hr : r1 = 0
        · rw [if_pos hr, if_pos hr, e55_23_12_176]
        · rw [if_neg hr, if_neg hr, e55_23_12_176]
      rw [p1, e1]
      cases hT : wTk t (wki (X p)) r.1 with
      | none =>
        rw [hT] at h54
        dsimp only at h54 ⊢
        rw [h54, zbI_some, if_pos rfl]
        exact ⟨P, rfl, fun i hi _ => p2 i hi, hvP⟩
      | some u =>
        rw [hT] at h54
        dsimp only at h54 ⊢
        obtain ⟨Q, q1, q2, q3⟩ := h54
        rw [q1, zbI_some, if_neg (by decide)]
        exact ⟨Q, rfl, fun i hi h2 => by rw [q2 i h2, p2 i hi], q3, wTk_p hkd hpp hwall.1 hT, by omega, hwall.2.2⟩
theorem s56_12_l (hX : wTxt n X) (hC : wTc M n X) (hk : zRo M) : ∀ f k, f + k = 200 → ∀ (p : Nat) (u : Nat → Nat) (P : zM) (o4 : Option Value), p ≤ n → (∀ i, i ≠ 25 → (i < 12 ∨ 22 < i) → P i = M i) → zTv P 12 u → zTp u → ∃ P', zden (L + 1) 56 8 [some (.ref 23), some (.ref 12), some (.int (nI p)), some (.int (nI k)), o4] [] P = some (some (.int (wRd X n f p u).1), P') ∧ (∀ i, i ≠ 25 → (i < 12 ∨ 22 < i) → P' i = M i) ∧ zTv P' 12 (wRd X n f p u).2 ∧ zTp (wRd X n f p u).2 := by
  have h200 := hX.1
  intro f
  induction f with
  | zero =>
    intro k hk2 p u P o4 hp hP hv hpp
    refine ⟨P, ?_, hP, hv, hpp⟩
    rw [e56_23_12_8, if_neg (show ¬ nI k < 200 from nI_nlt (b := 200) (by omega) (by omega)), e56_23_12_48]; rfl
  | succ f ih =>
    intro k hk2 p u P o4 hp hP hv hpp
    have hCP : wTc P n X := ⟨by rw [hP 23 (by omega) (by omega)]; exact hC.1, fun j hj => by rw [hP 24 (by omega) (by omega)]; exact hC.2 j hj⟩
    have hkP : zRo P := zRo_of hk fun i hi => hP i (zn62 hi (by omega)) (Or.inr (by have : zNW = 62 := rfl; omega))
    rw [e56_23_12_8, if_pos (show nI k < 200 from nI_lt (b := 200) (by omega) (by omega)), hCP.1]
    unfold wRd
    by_cases h : p < n
    · rw [if_pos (nI_lt h (by omega)), if_pos h]
      have h55 := s55_12 (L := L) hX hCP hkP h hv hpp
      cases hI : wIt X p u with
      | none =>
        rw [hI] at h55
        obtain ⟨Q, q1, q2, q3⟩ := h55
        dsimp only
        refine ⟨Q, ?_, fun i h1 h2 => by rw [q2 i h1 h2, hP i h1 h2], q3, hpp⟩
        rw [q1, zbI_some, if_neg (show ¬ nI p < -1 from fun q => nI_pos (n := p) (by omega) (Int32.lt_trans q (by decide)))]
      | some r =>
        rw [hI] at h55
        dsimp only at h55 ⊢
        obtain ⟨Q, q1, q2, q3, q4, q5, q6⟩ := h55
        obtain ⟨P', g1, g2⟩ := ih (k + 1) (by omega) r.1 r.2 Q (some (.int (nI r.1))) q6 (fun i h1 h2 => by rw [q2 i h1 h2, hP i h1 h2]) q3 q4
        refine ⟨P', ?_, g2⟩
        rw [q1, zbI_some, if_pos (nI_lt q5 (by omega)), nI_1, g1]
    · rw [if_neg (nI_nlt (by omega) (by omega)), if_neg h, e56_23_12_48]
      exact ⟨P, rfl, hP, hv, hpp⟩
end KP
