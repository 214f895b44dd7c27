section KP
variable {L : Nat} {ro M : zM} {n : Nat} {X t : Nat → Nat}
theorem wEn_up {Q : zM} {pc : Nat} {o1 : Option Value} {w : Option (Nat × (Nat → Nat))} (h : wEn L Q t pc o1 w) (he : zden (L + 1) 156 0 [some (.ref 48), none] [] M = zden (L + 1) 156 pc [some (.ref 48), o1] [] Q) (hF : wFm Q M) : wEn L M t 0 none w := by
  cases w with
  | none =>
    obtain ⟨P, h1, h2, h3⟩ := h
    exact ⟨P, he.trans h1, wFm_t h2 hF, h3⟩
  | some s =>
    obtain ⟨P, h1, h2, h3, h4⟩ := h
    exact ⟨P, he.trans h1, wFm_t h2 hF, h3, h4⟩
theorem wLt_in : ∀ j, j < 12 → 97 ≤ wLt j ∧ wLt j ≤ 116 := by decide
theorem s156 {p : Nat} (hX : wTxt n X) (hM : wTm M n X) (hm : zTm M 50 t) (hp : zTp t) (hpn : p < n) (h11 : M 48 11 = nI p) : wEn L M t 0 none (wIt X p t) := by
  have h200 := hX.1
  have hlt := wTxt_lt hX p
  have hF := wFm_at M (nI (p + 1))
  have hMQ := wTm_f hF hM
  have hmQ : zTm (zput M 48 11 (nI (p + 1))) 50 t := zTm_c hm (zput_ne (by omega))
  have h11Q : zput M 48 11 (nI (p + 1)) 48 11 = nI (p + 1) := zput_at _ _ _ _
  have e0 := e156_0 L M
  rw [h11, if_pos ((zinb_nI (by omega)).mpr (by omega)), nI_clamp (by omega), hM.2 p hpn, nI_1] at e0
  rw [wIt_2]
  by_cases h97 : X p = 97
  · rw [if_pos (show nI (X p) = 97 by rw [h97]; rfl)] at e0
    rw [show wki (X p) = 4 by rw [h97]; decide, if_neg (by decide)]
    exact wEn_up (s156_4 hX hMQ hmQ hp (by omega) h11Q _) e0 hF
  rw [if_neg (show ¬ nI (X p) = 97 from fun q => h97 ((nI_eq (b := 97) (by omega) (by omega)).mp q))] at e0
  by_cases h98 : X p = 98
  · rw [if_pos (show nI (X p) = 98 by rw [h98]; rfl)] at e0
    rw [show wki (X p) = 2 by rw [h98]; decide, if_neg (by decide)]
    exact wEn_up (s156_2 hX hMQ hmQ hp (by omega) h11Q _) e0 hF
  rw [if_neg (show ¬ nI (X p) = 98 from fun q => h98 ((nI_eq (b := 98) (by omega) (by omega)).mp q))] at e0
  by_cases h99 : X p = 99
  · rw [if_pos (show nI (X p) = 99 by rw [h99]; rfl)] at e0
    rw [if_pos (show wki (X p) = 12 by rw [h99]; decide)]
    exact ⟨_, by rw [e0, e156_377], hF, hmQ⟩
  rw [if_neg (show ¬ nI (X p) = 99 from fun q => h99 ((nI_eq (b := 99) (by omega) (by omega)).mp q))] at e0
  by_cases h100 : X p = 100
  · rw [if_pos (show nI (X p) = 100 by rw [h100]; rfl)] at e0
    rw [if_pos (show wki (X p) = 12 by rw [h100]; decide)]
    exact ⟨_, by rw [e0, e156_377], hF, hmQ⟩
  rw [if_neg (show ¬ nI (X p) = 100 from fun q => h100 ((nI_eq (b := 100) (by omega) (by omega)).mp q))] at e0
  by_cases h101 : X p = 101
  · rw [if_pos (show nI (X p) = 101 by rw [h101]; rfl)] at e0
    rw [show wki (X p) = 10 by rw [h101]; decide, if_neg (by decide)]
    exact wEn_up (s156_10 hX hMQ hmQ hp (by omega) h11Q _) e0 hF
  rw [if_neg (show ¬ nI (X p) = 101 from fun q => h101 ((nI_eq (b := 101) (by omega) (by omega)).mp q))] at e0
  by_cases h102 : X p = 102
  · rw [if_pos (show nI (X p) = 102 by rw [h102]; rfl)] at e0
    rw [if_pos (show wki (X p) = 12 by rw [h102]; decide)]
    exact ⟨_, by rw [e0, e156_377], hF, hmQ⟩
  rw [if_neg (show ¬ nI (X p) = 102 from fun q => h102 ((nI_eq (b := 102) (by omega) (by omega)).mp q))] at e0
  by_cases h103 : X p = 103
  · rw [if_pos (show nI (X p) = 103 by rw [h103]; rfl)] at e0
    rw [if_pos (show wki (X p) = 12 by rw [h103]; decide)]
    exact ⟨_, by rw [e0, e156_377], hF, hmQ⟩
  rw [if_neg (show ¬ nI (X p) = 103 from fun q => h103 ((nI_eq (b := 103) (by omega) (by omega)).mp q))] at e0
  by_cases h104 : X p = 104
  · rw [if_pos (show nI (X p) = 104 by rw [h104]; rfl)] at e0
    rw [show wki (X p) = 5 by rw [h104]; decide, if_neg (by decide)]
    exact wEn_up (s156_5 hX hMQ hmQ hp (by omega) h11Q _) e0 hF
  rw [if_neg (show ¬ nI (X p) = 104 from fun q => h104 ((nI_eq (b := 104) (by omega) (by omega)).mp q))] at e0
  by_cases h105 : X p = 105
  · rw [if_pos (show nI (X p) = 105 by rw [h105]; rfl)] at e0
    rw [show wki (X p) = 11 by rw [h105]; decide, if_neg (by decide)]
    exact wEn_up (s156_11 hX hMQ hmQ hp (by omega) h11Q _) e0 hF
  rw [if_neg (show ¬ nI (X p) = 105 from fun q => h105 ((nI_eq (b := 105) (by omega) (by omega)).mp q))] at e0
  by_cases h106 : X p = 106
  · rw [if_pos (show nI (X p) = 106 by rw [h106]; rfl)] at e0
    rw [if_pos (show wki (X p) = 12 by rw [h106]; decide)]
    exact ⟨_, by rw [e0, e156_377], hF, hmQ⟩
  rw [if_neg (show ¬ nI (X p) = 106 from fun q => h106 ((nI_eq (b := 106) (by omega) (by omega)).mp q))] at e0
  by_cases h107 : X p = 107
  · rw [if_pos (show nI (X p) = 107 by rw [h107]; rfl)] at e0
    rw [show wki (X p) = 3 by rw [h107]; decide, if_neg (by decide)]
    exact wEn_up (s156_3 hX hMQ hmQ hp (by omega) h11Q _) e0 hF
  rw [if_neg (show ¬ nI (X p) = 107 from fun q => h107 ((nI_eq (b := 107) (by omega) (by omega)).mp q))] at e0
  by_cases h108 : X p = 108
  · rw [if_pos (show nI (X p) = 108 by rw [h108]; rfl)] at e0
    rw [if_pos (show wki (X p) = 12 by rw [h108]; decide)]
    exact ⟨_, by rw [e0, e156_377], hF, hmQ⟩
  rw [if_neg (show ¬ nI (X p) = 108 from fun q => h108 ((nI_eq (b := 108) (by omega) (by omega)).mp q))] at e0
  by_cases h109 : X p = 109
  · rw [if_pos (show nI (X p) = 109 by rw [h109]; rfl)] at e0
    rw [show wki (X p) = 8 by rw [h109]; decide, if_neg (by decide)]
    exact wEn_up (s156_8 hX hMQ hmQ hp (by omega) h11Q _) e0 hF
  rw [if_neg (show ¬ nI (X p) = 109 from fun q => h109 ((nI_eq (b := 109) (by omega) (by omega)).mp q))] at e0
  by_cases h110 : X p = 110
  · rw [if_pos (show nI (X p) = 110 by rw [h110]; rfl)] at e0
    rw [show wki (X p) = 6 by rw [h110]; decide, if_neg (by decide)]
    exact wEn_up (s156_6 hX hMQ hmQ hp (by omega) h11Q _) e0 hF
  rw [if_neg (show ¬ nI (X p) = 110 from fun q => h110 ((nI_eq (b := 110) (by omega) (by omega)).mp q))] at e0
  by_cases h111 : X p = 111
  · rw [if_pos (show nI (X p) = 111 by rw [h111]; rfl)] at e0
    rw [if_pos (show wki (X p) = 12 by rw [h111]; decide)]
    exact ⟨_, by rw [e0, e156_377], hF, hmQ⟩
  rw [if_neg (show ¬ nI (X p) = 111 from fun q => h111 ((nI_eq (b := 111) (by omega) (by omega)).mp q))] at e0
  by_cases h112 : X p = 112
  · rw [if_pos (show nI (X p) = 112 by rw [h112]; rfl)] at e0
    rw [show wki (X p) = 1 by rw [h112]; decide, if_neg (by decide)]
    exact wEn_up (s156_1 hX hMQ hmQ hp (by omega) h11Q _) e0 hF
  rw [if_neg (show ¬ nI (X p) = 112 from fun q => h112 ((nI_eq (b := 112) (by omega) (by omega)).mp q))] at e0
  by_cases h113 : X p = 113
  · rw [if_pos (show nI (X p) = 113 by rw [h113]; rfl)] at e0
    rw [show wki (X p) = 7 by rw [h113]; decide, if_neg (by decide)]
    exact wEn_up (s156_7 hX hMQ hmQ hp (by omega) h11Q _) e0 hF
  rw [if_neg (show ¬ nI (X p) = 113 from fun q => h113 ((nI_eq (b := 113) (by omega) (by omega)).mp q))] at e0
  by_cases h114 : X p = 114
  · rw [if_pos (show nI (X p) = 114 by rw [h114]; rfl)] at e0
    rw [if_pos (show wki (X p) = 12 by rw [h114]; decide)]
    exact ⟨_, by rw [e0, e156_377], hF, hmQ⟩
  rw [if_neg (show ¬ nI (X p) = 114 from fun q => h114 ((nI_eq (b := 114) (by omega) (by omega)).mp q))] at e0
  by_cases h115 : X p = 115
  · rw [if_pos (show nI (X p) = 115 by rw [h115]; rfl)] at e0
    rw [show wki (X p) = 0 by rw [h115]; decide, if_neg (by decide)]
    exact wEn_up (s156_0 hX hMQ hmQ hp (by omega) h11Q _) e0 hF
  rw [if_neg (show ¬ nI (X p) = 115 from fun q => h115 ((nI_eq (b := 115) (by omega) (by omega)).mp q))] at e0
  by_cases h116 : X p = 116
  · rw [if_pos (show nI (X p) = 116 by rw [h116]; rfl)] at e0
    rw [show wki (X p) = 9 by rw [h116]; decide, if_neg (by decide)]
    exact wEn_up (s156_9 hX hMQ hmQ hp (by omega) h11Q _) e0 hF
  rw [if_neg (show ¬ nI (X p) = 116 from fun q => h116 ((nI_eq (b := 116) (by omega) (by omega)).mp q))] at e0
  have hk : wki (X p) = 12 := by
    have h1 := wki_le (X p)
    by_cases h2 : wki (X p) < 12
    · have h3 := wki_at h2
      have h4 := wLt_in _ h2
      omega
    · omega
  rw [if_pos hk]
  exact ⟨_, by rw [e0, e156_377], hF, hmQ⟩
theorem wIt_ok {p : Nat} {r : Nat × (Nat → Nat)} (hX : wTxt n X) (hp : zTp t) (hpn : p < n) (h : wIt X p t = some r) : p < r.1 ∧ r.1 ≤ n ∧ zTp r.2 := by
  rw [wIt_2] at h
  by_cases h12 : wki (X p) = 12
  · rw [if_pos h12] at h; cases h
  · rw [if_neg h12] at h
    have hkd : wki (X p) < 12 := by have := wki_le (X p); omega
    unfold wI2 at h
    cases hk : wtk X (wNm (wki (X p))) 0 (p + 1) (fun _ => 0) with
    | none => rw [hk] at h; cases h
    | some s =>
      rw [hk] at h
      dsimp only at h
      by_cases hw : wall (wki (X p)) s.1 (wNm (wki (X p))) 0 = true
      · rw [if_pos hw] at h
        cases hT : wTk t (wki (X p)) s.1 with
        | none => rw [hT] at h; cases h
        | some u =>
          rw [hT] at h
          cases h
          have := wtk_lt hX (b := s.1) (q := s.2) (by omega) hk
          exact ⟨by dsimp only; omega, this.2.1, wTk_p hkd hp hw hT⟩
      · rw [if_neg hw] at h; cases h
theorem s157_l (hX : wTxt n X) (hM : wTm M n X) : ∀ f p, n ≤ p + f → p ≤ n → ∀ (u : Nat → Nat) (P : zM) (o1 : Option Value), wFm P M → P 48 11 = nI p → zTm P 50 u → zTp u → ∃ P', zden (L + 1) 157 12 [some (.ref 48), o1] [] P = some (some (.int (wRd X n f p u).1), P') ∧ wFm P' M ∧ zTm P' 50 (wRd X n f p u).2 := by
  have h200 := hX.1
  intro f
  induction f with
  | zero =>
    intro p hn hp u P o1 hF h11 hm hpp
    refine ⟨P, ?_, hF, hm⟩
    rw [e157_12, h11, (wTm_f hF hM).1, if_neg (nI_nlt (by omega) (by omega))]
    rfl
  | succ f ih =>
    intro p hn hp u P o1 hF h11 hm hpp
    have hMP := wTm_f hF hM
    rw [e157_12, h11, hMP.1]
    unfold wRd
    by_cases h : p < n
    · rw [if_pos (nI_lt h (by omega)), if_pos h]
      have h156 := s156 (L := L) hX hMP hm hpp h h11
      cases hI : wIt X p u with
      | none =>
        rw [hI] at h156
        obtain ⟨Q, q1, q2, q3⟩ := h156
        dsimp only
        refine ⟨Q, ?_, wFm_t q2 hF, q3⟩
        rw [q1, zbI_some, if_pos rfl]
      | some r =>
        rw [hI] at h156
        obtain ⟨Q, q1, q2, q3, q4⟩ := h156
        obtain ⟨a1, a2, a3⟩ := wIt_ok hX hpp h hI
        dsimp only
        obtain ⟨P', g1, g2, g3⟩ := ih r.1 (by omega) a2 r.2 Q (some (.int (nI p))) (wFm_t q2 hF) q4 q3 a3
        refine ⟨P', ?_, g2, g3⟩
        rw [q1, zbI_some, if_neg (by decide), g1]
    · rw [if_neg (nI_nlt (by omega) (by omega)), if_neg h]
      exact ⟨P, rfl, hF, hm⟩
theorem s141_l : ∀ d k, d + k = 116 → zden (L + 1) 141 2 [some (.ref 50), some (.int (nI k))] [] (zfl M 50 k 0) = some (none, zput (zput (zput (zput (zput (zput (zput (zput (zput (zput (zput (zfl M 50 116 0) 50 4 20) 50 5 20) 50 6 30) 50 8 10) 50 9 30) 50 10 20) 50 11 40) 50 12 20) 50 13 20) 50 14 60) 50 15 9) := by
  intro d
  induction d with
  | zero =>
    intro k hk
    have e : k = 116 := by omega
    subst e
    rw [e141_50_2, if_neg (by decide)]
  | succ d ih =>
    intro k hk
    rw [e141_50_2, if_pos (show nI k < 116 from nI_lt (b := 116) (by omega) (by omega)), if_pos ((zinb_nI (by omega)).mpr (by omega)), nI_clamp (by omega), zfl_s, nI_1]
    exact ih (k + 1) (by omega)
theorem s141 : ∃ P, zden (L + 1) 141 0 [some (.ref 50), none] [] M = some (none, P) ∧ (∀ i, i ≠ 50 → P i = M i) ∧ zTm P 50 wCl := by
  have h := s141_l (L := L) (M := M) 116 0 (by omega)
  rw [zfl_0, nI_0] at h
  refine ⟨_, by rw [e141_50_0]; exact h, fun i hi => ?_, ?_⟩
  · rw [zput_ne hi, zput_ne hi, zput_ne hi, zput_ne hi, zput_ne hi, zput_ne hi, zput_ne hi, zput_ne hi, zput_ne hi, zput_ne hi, zput_ne hi, zfl_row M hi]
  · have h0 : zTm (zfl M 50 116 0) 50 (fun _ => 0) := fun j hj => by rw [zfl_in _ hj]; rfl
    exact zTm_put (x := 9) (zTm_put (x := 60) (zTm_put (x := 20) (zTm_put (x := 20) (zTm_put (x := 40) (zTm_put (x := 20) (zTm_put (x := 30) (zTm_put (x := 10) (zTm_put (x := 30) (zTm_put (x := 20) (zTm_put (x := 20) h0))))))))))
theorem s157 (hX : wTxt n X) (hM : wTm M n X) : ∃ P, zden (L + 1) 157 0 [some (.ref 48), none] [] M = some (some (.int (wRe X n).1), P) ∧ wFm P M ∧ zTm P 50 (wRe X n).2 := by
  obtain ⟨P, p1, p2, p3⟩ := s141 (L := L) (M := M)
  have hF1 : wFm P M := ⟨fun i _ b _ => p2 i b, fun j _ => by rw [p2 48 (by omega)]⟩
  have hF : wFm (zput P 48 11 0) M := wFm_t (wFm_at P 0) hF1
  obtain ⟨Q, q1, q2, q3⟩ := s157_l (L := L) hX (wTm_f hF hM) 200 0 (by have := hX.1; omega) (by omega) wCl (zput P 48 11 0) none (wFm_r _) (zput_at _ _ _ _) (zTm_c p3 (zput_ne (by omega))) wCl_p
  refine ⟨Q, ?_, wFm_t q2 hF, q3⟩
  rw [e157_0, p1, zbV_some]
  exact q1
theorem wTx_of (h : zTx M) : ∃ n X, wTxt n X ∧ wTc M n X ∧ wTm M n X := by
  obtain ⟨n, hn, e1, e2, e3⟩ := h
  refine ⟨n, fun j => if j < n then (M 24 j).toNatClampNeg else 0, ⟨hn, fun j hj => ?_, fun j hj => ?_⟩, ⟨e1, fun j hj => ?_⟩, ⟨e2, fun j hj => ?_⟩⟩
  · obtain ⟨c, c1, c2, c3, c4⟩ := e3 j hj
    show 32 ≤ (if j < n then (M 24 j).toNatClampNeg else 0) ∧ (if j < n then (M 24 j).toNatClampNeg else 0) ≤ 126
    rw [if_pos hj, c3, nI_clamp (by omega)]
    exact ⟨c1, c2⟩
  · show (if j < n then (M 24 j).toNatClampNeg else 0) = 0
    rw [if_neg (by omega)]
  · obtain ⟨c, c1, c2, c3, c4⟩ := e3 j hj
    show M 24 j = nI (if j < n then (M 24 j).toNatClampNeg else 0)
    rw [if_pos hj, c3, nI_clamp (by omega)]
  · obtain ⟨c, c1, c2, c3, c4⟩ := e3 j hj
    show M 51 j = nI (if j < n then (M 24 j).toNatClampNeg else 0)
    rw [if_pos hj, c3, nI_clamp (by omega), c4]
theorem k_fault (hk : zRo ro) (hR : zRel M) (hro : ∀ i, zNW ≤ i → M i = ro i) : zSame L ro 98 158 [some (.ref 0)] [some (.ref 48)] M := by
  obtain ⟨t, hb, hc, hm, htx, -⟩ := id hR
  have hkM := zRo_of hk hro
  obtain ⟨n, X, hX, hC, hT⟩ := wTx_of htx
  obtain ⟨P, p1, p2, p3, p4⟩ := s56_12 (L := L) hX hC hkM
  have hTP : wTm P n X := ⟨by rw [p2 48 (by omega) (by omega)]; exact hT.1, fun j hj => by rw [p2 51 (by omega) (by omega)]; exact hT.2 j hj⟩
  obtain ⟨Q, q1, q2, q3⟩ := s157 (L := L) hX hTP
  refine ⟨(wRe X n).1, P, Q, by rw [e98_0, p1, zbI_some], by rw [e158_0, q1, zbI_some], ?_, fun i hi => ?_⟩
  · refine zRel_s hR (fun i h1 h2 => ?_) (fun j hj => by rw [q2.2 j hj, p2 48 (by omega) (by omega)])
    rw [q2.1 i h2 (zscr_ne h1 (by decide)) (zscr_ne h1 (by decide)), p2 i (zscr_ne h1 (by decide))]
    have hnot : ¬ (12 ≤ i ∧ i ≤ 22) := fun q => by
      have : zscr i = true := by unfold zscr; simp [q.1, q.2]
      rw [this] at h1; cases h1
    omega
  · have h62 : 62 ≤ i := hi
    rw [q2.1 i (by omega) (by omega) (by omega), p2 i (by omega) (by omega), hro i hi]
end KP
