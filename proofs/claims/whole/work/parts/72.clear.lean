theorem zTm_put {M : zM} {b j x : Nat} {t : Nat → Nat} (h : zTm M b t) : zTm (zput M b j (nI x)) b (wup1 t j x) := by
  intro k hk
  unfold wup1
  by_cases e : k = j
  · rw [if_pos e, e, zput_at]
  · rw [if_neg e, zput_o _ _ (Or.inr e)]; exact h k hk
/-- a town before anything is told of it -/
def wCl : Nat → Nat := wup1 (wup1 (wup1 (wup1 (wup1 (wup1 (wup1 (wup1 (wup1 (wup1 (wup1 (fun _ => 0) 4 20) 5 20) 6 30) 8 10) 9 30) 10 20) 11 40) 12 20) 13 20) 14 60) 15 9
theorem wCl_v : ∀ k, k < 12 → wCl (4 + k) = [20, 20, 30, 0, 10, 30, 20, 40, 20, 20, 60, 9].getD k 0 := by decide
theorem wCl_o {j : Nat} (h : j < 4 ∨ 16 ≤ j) : wCl j = 0 := by
  unfold wCl
  rw [wup1_o (by omega), wup1_o (by omega), wup1_o (by omega), wup1_o (by omega), wup1_o (by omega), wup1_o (by omega), wup1_o (by omega), wup1_o (by omega), wup1_o (by omega), wup1_o (by omega), wup1_o (by omega)]
theorem wCl_p : zTp wCl := by
  refine ⟨⟨by decide, by decide, by decide, by decide⟩, by decide, ?_, ?_, ?_, ?_, ?_, ?_⟩
  · intro s hs; rw [wCl_o (by omega)] at hs; omega
  · intro s hs; rw [wCl_o (by omega)] at hs; omega
  · intro s hs; rw [wCl_o (by omega)]; omega
  · intro s hs; rw [wCl_o (by omega)] at hs; omega
  · intro s hs; rw [wCl_o (by omega)] at hs; omega
  · intro s _ _; rw [wCl_o (by omega)]
theorem wCl_tv {M : zM} {o : Nat} (h2 : M o 2 = 0) (h6 : M o 6 = 0) (h9 : M o 9 = 0) (h13 : M o 13 = 0) (h14 : M o 14 = 0) (hv : ∀ k, k < 12 → M (o + 3) k = nI ([20, 20, 30, 0, 10, 30, 20, 40, 20, 20, 60, 9].getD k 0)) (hh : ∀ h, h < 24 → M (o + 6) h = 0) : zTv M o wCl := by
  refine ⟨fun j hj => ?_, by rw [h14, wCl_o (j := 2) (by omega)]; rfl⟩
  unfold wlv at hj
  rw [wCl_o (j := 0) (by omega), wCl_o (j := 1) (by omega), wCl_o (j := 2) (by omega), wCl_o (j := 3) (by omega)] at hj
  have hj2 : j < 4 ∨ (4 ≤ j ∧ j < 16) ∨ (48 ≤ j ∧ j < 72) := by omega
  rcases hj2 with h | h | h
  · have h4 : j = 0 ∨ j = 1 ∨ j = 2 ∨ j = 3 := by omega
    rcases h4 with rfl | rfl | rfl | rfl
    · exact h2
    · exact h6
    · exact h9
    · exact h13
  · obtain ⟨k, rfl⟩ : ∃ k, j = 4 + k := ⟨j - 4, by omega⟩
    rw [show cr o (4 + k) = o + 3 by unfold cr; rw [if_neg (by omega), if_pos (by omega)], show cl (4 + k) = k by unfold cl; rw [if_neg (by omega), if_neg (by omega), if_neg (by omega), if_neg (by omega), if_pos (by omega)]; omega, hv k (by omega), wCl_v k (by omega)]
  · obtain ⟨k, rfl⟩ : ∃ k, j = 48 + k := ⟨j - 48, by omega⟩
    rw [show cr o (48 + k) = o + 6 by unfold cr; simp only [show ¬ 48 + k < 4 by omega, show ¬ 48 + k < 16 by omega, show ¬ 48 + k < 28 by omega, show ¬ 48 + k < 40 by omega, show ¬ 48 + k < 44 by omega, show ¬ 48 + k < 48 by omega, show 48 + k < 72 by omega, if_true, if_false], show cl (48 + k) = k by unfold cl; simp only [show ¬ 48 + k = 0 by omega, show ¬ 48 + k = 1 by omega, show ¬ 48 + k = 2 by omega, show ¬ 48 + k = 3 by omega, show ¬ 48 + k < 16 by omega, show ¬ 48 + k < 28 by omega, show ¬ 48 + k < 40 by omega, show ¬ 48 + k < 44 by omega, show ¬ 48 + k < 48 by omega, show 48 + k < 72 by omega, if_true, if_false]; omega, hh k (by omega), wCl_o (by omega)]
    rfl
section KP
variable {L : Nat} {ro M : zM} {n : Nat} {X t : Nat → Nat}
theorem s32_12 (hk : zRo M) : ∃ P, zden (L + 1) 32 0 [some (.ref 12)] [] M = some (none, P) ∧ (∀ i, (i < 12 ∨ 22 < i) → P i = M i) ∧ zTv P 12 wCl := by
  refine ⟨zcp2 (zfl (zput (zput (zput (zput (zput M 12 2 0) 12 6 0) 12 9 0) 12 13 0) 12 14 0) 18 24 0) 63 0 15 0 12, ?_, fun i hi => ?_, wCl_tv ?_ ?_ ?_ ?_ ?_ ?_ ?_⟩
  · rw [e32_12_0, s19_18, zbV_some, s31_63_15, zbV_some]
  · rw [zcp2_row _ (by omega), zfl_row _ (by omega), zput_ne (by omega), zput_ne (by omega), zput_ne (by omega), zput_ne (by omega), zput_ne (by omega)]
  · rw [zcp2_row _ (by decide), zfl_row _ (by decide)]; simp [zput]
  · rw [zcp2_row _ (by decide), zfl_row _ (by decide)]; simp [zput]
  · rw [zcp2_row _ (by decide), zfl_row _ (by decide)]; simp [zput]
  · rw [zcp2_row _ (by decide), zfl_row _ (by decide)]; simp [zput]
  · rw [zcp2_row _ (by decide), zfl_row _ (by decide)]; simp [zput]
  · intro k hk2
    show zcp2 _ 63 0 15 0 12 15 k = _
    rw [zcp2_in _ (by omega) (by omega), zfl_row _ (by decide), zput_ne (by decide), zput_ne (by decide), zput_ne (by decide), zput_ne (by decide), zput_ne (by decide), show 0 + (k - 0) = k by omega, hk.1 k hk2]
  · intro h hh
    show zcp2 _ 63 0 15 0 12 18 h = _
    rw [zcp2_row _ (by decide), zfl_in _ hh]
theorem s32_1 (hk : zRo M) : ∃ P, zden (L + 1) 32 0 [some (.ref 1)] [] M = some (none, P) ∧ (∀ i, (i < 1 ∨ 11 < i) → P i = M i) ∧ zTv P 1 wCl := by
  refine ⟨zcp2 (zfl (zput (zput (zput (zput (zput M 1 2 0) 1 6 0) 1 9 0) 1 13 0) 1 14 0) 7 24 0) 63 0 4 0 12, ?_, fun i hi => ?_, wCl_tv ?_ ?_ ?_ ?_ ?_ ?_ ?_⟩
  · rw [e32_1_0, s19_7, zbV_some, s31_63_4, zbV_some]
  · rw [zcp2_row _ (by omega), zfl_row _ (by omega), zput_ne (by omega), zput_ne (by omega), zput_ne (by omega), zput_ne (by omega), zput_ne (by omega)]
  · rw [zcp2_row _ (by decide), zfl_row _ (by decide)]; simp [zput]
  · rw [zcp2_row _ (by decide), zfl_row _ (by decide)]; simp [zput]
  · rw [zcp2_row _ (by decide), zfl_row _ (by decide)]; simp [zput]
  · rw [zcp2_row _ (by decide), zfl_row _ (by decide)]; simp [zput]
  · rw [zcp2_row _ (by decide), zfl_row _ (by decide)]; simp [zput]
  · intro k hk2
    show zcp2 _ 63 0 4 0 12 4 k = _
    rw [zcp2_in _ (by omega) (by omega), zfl_row _ (by decide), zput_ne (by decide), zput_ne (by decide), zput_ne (by decide), zput_ne (by decide), zput_ne (by decide), show 0 + (k - 0) = k by omega, hk.1 k hk2]
  · intro h hh
    show zcp2 _ 63 0 4 0 12 7 h = _
    rw [zcp2_row _ (by decide), zfl_in _ hh]
/-- what a text tells -/
def wRe (X : Nat → Nat) (n : Nat) : Int32 × (Nat → Nat) := wRd X n 200 0 wCl
theorem s56_12 (hX : wTxt n X) (hC : wTc M n X) (hk : zRo M) : ∃ P, zden (L + 1) 56 0 [some (.ref 23), some (.ref 12), none, none, none] [] M = some (some (.int (wRe X n).1), P) ∧ (∀ i, i ≠ 25 → (i < 12 ∨ 22 < i) → P i = M i) ∧ zTv P 12 (wRe X n).2 ∧ zTp (wRe X n).2 := by
  obtain ⟨P, p1, p2, p3⟩ := s32_12 (L := L) hk
  have hCP : wTc P n X := ⟨by rw [p2 23 (by omega)]; exact hC.1, fun j hj => by rw [p2 24 (by omega)]; exact hC.2 j hj⟩
  have hkP : zRo P := zRo_of hk fun i hi => p2 i (Or.inr (by have : zNW = 62 := rfl; omega))
  obtain ⟨Q, q1, q2, q3⟩ := s56_12_l (L := L) hX hCP hkP 200 0 (by omega) 0 wCl P none (by omega) (fun i _ _ => rfl) p3 wCl_p
  rw [nI_0] at q1
  refine ⟨Q, ?_, fun i h1 h2 => by rw [q2 i h1 h2, p2 i h2], q3⟩
  rw [e56_23_12_0, p1, zbV_some]
  exact q1
theorem s56_1 (hX : wTxt n X) (hC : wTc M n X) (hk : zRo M) : ∃ P, zden (L + 1) 56 0 [some (.ref 23), some (.ref 1), none, none, none] [] M = some (some (.int (wRe X n).1), P) ∧ (∀ i, i ≠ 25 → (i < 1 ∨ 11 < i) → P i = M i) ∧ zTv P 1 (wRe X n).2 ∧ zTp (wRe X n).2 := by
  obtain ⟨P, p1, p2, p3⟩ := s32_1 (L := L) hk
  have hCP : wTc P n X := ⟨by rw [p2 23 (by omega)]; exact hC.1, fun j hj => by rw [p2 24 (by omega)]; exact hC.2 j hj⟩
  have hkP : zRo P := zRo_of hk fun i hi => p2 i (Or.inr (by have : zNW = 62 := rfl; omega))
  obtain ⟨Q, q1, q2, q3⟩ := s56_1_l (L := L) hX hCP hkP 200 0 (by omega) 0 wCl P none (by omega) (fun i _ _ => rfl) p3 wCl_p
  rw [nI_0] at q1
  refine ⟨Q, ?_, fun i h1 h2 => by rw [q2 i h1 h2, p2 i h2], q3⟩
  rw [e56_23_1_0, p1, zbV_some]
  exact q1
end KP
