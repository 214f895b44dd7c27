def cr (o j : Nat) : Nat := if j < 4 then o else if j < 16 then o + 3 else if j < 28 then o + 1 else if j < 40 then o + 2 else if j < 44 then o + 4 else if j < 48 then o + 5 else if j < 72 then o + 6 else if j < 86 then o + 7 else if j < 96 then o + 8 else if j < 106 then o + 9 else o + 10
def cl (j : Nat) : Nat := if j = 0 then 2 else if j = 1 then 6 else if j = 2 then 9 else if j = 3 then 13 else if j < 16 then j - 4 else if j < 28 then j - 16 else if j < 40 then j - 28 else if j < 44 then j - 40 else if j < 48 then j - 44 else if j < 72 then j - 48 else if j < 86 then j - 72 else if j < 96 then j - 86 else if j < 106 then j - 96 else j - 106
def wix (j : Nat) : Prop := j < 79 ∨ (86 ≤ j ∧ j < 116)
theorem cr_o (o j : Nat) : cr o j = o + cr 0 j := by
  unfold cr
  by_cases h1 : j < 4
  · simp only [h1, if_true]; omega
  by_cases h2 : j < 16
  · simp only [h1, h2, if_true, if_false]
  by_cases h3 : j < 28
  · simp only [h1, h2, h3, if_true, if_false]
  by_cases h4 : j < 40
  · simp only [h1, h2, h3, h4, if_true, if_false]
  by_cases h5 : j < 44
  · simp only [h1, h2, h3, h4, h5, if_true, if_false]
  by_cases h6 : j < 48
  · simp only [h1, h2, h3, h4, h5, h6, if_true, if_false]
  by_cases h7 : j < 72
  · simp only [h1, h2, h3, h4, h5, h6, h7, if_true, if_false]
  by_cases h8 : j < 86
  · simp only [h1, h2, h3, h4, h5, h6, h7, h8, if_true, if_false]
  by_cases h9 : j < 96
  · simp only [h1, h2, h3, h4, h5, h6, h7, h8, h9, if_true, if_false]
  by_cases h10 : j < 106
  · simp only [h1, h2, h3, h4, h5, h6, h7, h8, h9, h10, if_true, if_false]
  · simp only [h1, h2, h3, h4, h5, h6, h7, h8, h9, h10, if_false]
theorem cell_all : ∀ j k : Fin 116, (j.val < 79 ∨ 86 ≤ j.val) → (k.val < 79 ∨ 86 ≤ k.val) → cr 0 j.val = cr 0 k.val → cl j.val = cl k.val → j.val = k.val := by decide +kernel
theorem cell_14 : ∀ j : Fin 116, ¬ (cr 0 j.val = 0 ∧ cl j.val = 14) := by decide +kernel
theorem cell_10 : ∀ j : Fin 116, cr 0 j.val ≤ 10 := by decide +kernel
theorem cr_le {o j : Nat} (h : wix j) : o ≤ cr o j ∧ cr o j ≤ o + 10 := by
  have h1 : j < 116 := by unfold wix at h; omega
  have := cell_10 ⟨j, h1⟩
  rw [cr_o]
  dsimp only at this
  omega
theorem cell_inj {o j k : Nat} (hj : wix j) (hk : wix k) (h1 : cr o j = cr o k) (h2 : cl j = cl k) : j = k := by
  have a : j < 116 := by unfold wix at hj; omega
  have b : k < 116 := by unfold wix at hk; omega
  rw [cr_o o j, cr_o o k] at h1
  exact cell_all ⟨j, a⟩ ⟨k, b⟩ (by unfold wix at hj; dsimp only; omega) (by unfold wix at hk; dsimp only; omega) (by dsimp only; omega) h2
theorem zput_cell {M : zM} {o j k : Nat} {x : Int32} (hj : wix j) (hk : wix k) : zput M (cr o j) (cl j) x (cr o k) (cl k) = if k = j then x else M (cr o k) (cl k) := by
  by_cases e : k = j
  · rw [if_pos e, e, zput_at]
  · rw [if_neg e, zput_o]
    by_cases h1 : cr o k = cr o j
    · exact Or.inr fun h2 => e (cell_inj hk hj h1 h2)
    · exact Or.inl h1
theorem zput_14 {M : zM} {o j : Nat} {x : Int32} (hj : wix j) : zput M (cr o j) (cl j) x o 14 = M o 14 := by
  have a : j < 116 := by unfold wix at hj; omega
  have := cell_14 ⟨j, a⟩
  dsimp only at this
  rw [zput_o]
  rw [cr_o]
  by_cases h : cr 0 j = 0
  · exact Or.inr fun q => this ⟨h, q.symm⟩
  · exact Or.inl (by omega)
/-- what of a town is in use -/
def wlv (t : Nat → Nat) (j : Nat) : Prop := j < 16 ∨ (16 ≤ j ∧ j < 28 ∧ j < 16 + t 0) ∨ (28 ≤ j ∧ j < 40 ∧ j < 28 + t 0) ∨ (40 ≤ j ∧ j < 44 ∧ j < 40 + t 1) ∨ (44 ≤ j ∧ j < 48 ∧ j < 44 + t 1) ∨ (48 ≤ j ∧ j < 72) ∨ (72 ≤ j ∧ j < 79 ∧ j < 72 + t 2) ∨ (86 ≤ j ∧ j < 96 ∧ j < 86 + t 3) ∨ (96 ≤ j ∧ j < 106 ∧ j < 96 + t 3) ∨ (106 ≤ j ∧ j < 116 ∧ j < 106 + t 3)
def zTv (M : zM) (o : Nat) (t : Nat → Nat) : Prop := (∀ j, wlv t j → M (cr o j) (cl j) = nI (t j)) ∧ M o 14 = nI (zbits (fun q => t (79 + q)) (t 2))
theorem zTv_c {M M' : zM} {o : Nat} {t : Nat → Nat} (h : zTv M o t) (hr : ∀ i, o ≤ i → i ≤ o + 10 → M' i = M i) : zTv M' o t := by
  refine ⟨fun j hj => ?_, by rw [hr o (by omega) (by omega)]; exact h.2⟩
  have := cr_le (o := o) (j := j) (by unfold wlv at hj; unfold wix; omega)
  rw [hr _ this.1 this.2]
  exact h.1 j hj
theorem zTv_tc {M : zM} {o : Nat} {t : Nat → Nat} (hp : zTp t) (h : zTv M o t) : zTc M o t := by
  obtain ⟨⟨g0, g1, g2, g3⟩, -⟩ := hp
  have a := fun j hj => h.1 j hj
  refine ⟨⟨a 0 (by unfold wlv; omega), a 1 (by unfold wlv; omega), a 2 (by unfold wlv; omega), a 3 (by unfold wlv; omega), h.2⟩, ?_, ?_, ?_, ?_, ?_, ?_⟩
  · intro k hk
    have := a (4 + k) (by unfold wlv; omega)
    rw [show cr o (4 + k) = o + 3 by unfold cr; rw [if_neg (by omega), if_pos (by omega)], show cl (4 + k) = k by unfold cl; rw [if_neg (by omega), if_neg (by omega), if_neg (by omega), if_neg (by omega), if_pos (by omega)]; omega] at this
    exact this
  · intro s hs
    have h1 := a (16 + s) (by unfold wlv; omega)
    have h2 := a (28 + s) (by unfold wlv; omega)
    rw [show cr o (16 + s) = o + 1 by unfold cr; simp only [show ¬ 16 + s < 4 by omega, show ¬ 16 + s < 16 by omega, show 16 + s < 28 by omega, if_true, if_false], show cl (16 + s) = s by unfold cl; simp only [show ¬ 16 + s = 0 by omega, show ¬ 16 + s = 1 by omega, show ¬ 16 + s = 2 by omega, show ¬ 16 + s = 3 by omega, show ¬ 16 + s < 16 by omega, show 16 + s < 28 by omega, if_true, if_false]; omega] at h1
    rw [show cr o (28 + s) = o + 2 by unfold cr; simp only [show ¬ 28 + s < 4 by omega, show ¬ 28 + s < 16 by omega, show ¬ 28 + s < 28 by omega, show 28 + s < 40 by omega, if_true, if_false], show cl (28 + s) = s by unfold cl; simp only [show ¬ 28 + s = 0 by omega, show ¬ 28 + s = 1 by omega, show ¬ 28 + s = 2 by omega, show ¬ 28 + s = 3 by omega, show ¬ 28 + s < 16 by omega, show ¬ 28 + s < 28 by omega, show 28 + s < 40 by omega, if_true, if_false]; omega] at h2
    exact ⟨h1, h2⟩
  · intro h hs
    have h0 := a (40 + h) (by unfold wlv; omega)
    rw [show cr o (40 + h) = o + 4 by unfold cr; simp only [show ¬ 40 + h < 4 by omega, show ¬ 40 + h < 16 by omega, show ¬ 40 + h < 28 by omega, show ¬ 40 + h < 40 by omega, show 40 + h < 44 by omega, if_true, if_false], show cl (40 + h) = h by unfold cl; simp only [show ¬ 40 + h = 0 by omega, show ¬ 40 + h = 1 by omega, show ¬ 40 + h = 2 by omega, show ¬ 40 + h = 3 by omega, show ¬ 40 + h < 16 by omega, show ¬ 40 + h < 28 by omega, show ¬ 40 + h < 40 by omega, show 40 + h < 44 by omega, if_true, if_false]; omega] at h0
    have h1 := a (44 + h) (by unfold wlv; omega)
    rw [show cr o (44 + h) = o + 5 by unfold cr; simp only [show ¬ 44 + h < 4 by omega, show ¬ 44 + h < 16 by omega, show ¬ 44 + h < 28 by omega, show ¬ 44 + h < 40 by omega, show ¬ 44 + h < 44 by omega, show 44 + h < 48 by omega, if_true, if_false], show cl (44 + h) = h by unfold cl; simp only [show ¬ 44 + h = 0 by omega, show ¬ 44 + h = 1 by omega, show ¬ 44 + h = 2 by omega, show ¬ 44 + h = 3 by omega, show ¬ 44 + h < 16 by omega, show ¬ 44 + h < 28 by omega, show ¬ 44 + h < 40 by omega, show ¬ 44 + h < 44 by omega, show 44 + h < 48 by omega, if_true, if_false]; omega] at h1
    exact ⟨h0, h1⟩
  · intro s hs
    have h0 := a (48 + s) (by unfold wlv; omega)
    rw [show cr o (48 + s) = o + 6 by unfold cr; simp only [show ¬ 48 + s < 4 by omega, show ¬ 48 + s < 16 by omega, show ¬ 48 + s < 28 by omega, show ¬ 48 + s < 40 by omega, show ¬ 48 + s < 44 by omega, show ¬ 48 + s < 48 by omega, show 48 + s < 72 by omega, if_true, if_false], show cl (48 + s) = s by unfold cl; simp only [show ¬ 48 + s = 0 by omega, show ¬ 48 + s = 1 by omega, show ¬ 48 + s = 2 by omega, show ¬ 48 + s = 3 by omega, show ¬ 48 + s < 16 by omega, show ¬ 48 + s < 28 by omega, show ¬ 48 + s < 40 by omega, show ¬ 48 + s < 44 by omega, show ¬ 48 + s < 48 by omega, show 48 + s < 72 by omega, if_true, if_false]; omega] at h0
    exact h0
  · intro q hs
    have h0 := a (72 + q) (by unfold wlv; omega)
    rw [show cr o (72 + q) = o + 7 by unfold cr; simp only [show ¬ 72 + q < 4 by omega, show ¬ 72 + q < 16 by omega, show ¬ 72 + q < 28 by omega, show ¬ 72 + q < 40 by omega, show ¬ 72 + q < 44 by omega, show ¬ 72 + q < 48 by omega, show ¬ 72 + q < 72 by omega, show 72 + q < 86 by omega, if_true, if_false], show cl (72 + q) = q by unfold cl; simp only [show ¬ 72 + q = 0 by omega, show ¬ 72 + q = 1 by omega, show ¬ 72 + q = 2 by omega, show ¬ 72 + q = 3 by omega, show ¬ 72 + q < 16 by omega, show ¬ 72 + q < 28 by omega, show ¬ 72 + q < 40 by omega, show ¬ 72 + q < 44 by omega, show ¬ 72 + q < 48 by omega, show ¬ 72 + q < 72 by omega, show 72 + q < 86 by omega, if_true, if_false]; omega] at h0
    exact h0
  · intro e hs
    have h0 := a (86 + e) (by unfold wlv; omega)
    rw [show cr o (86 + e) = o + 8 by unfold cr; simp only [show ¬ 86 + e < 4 by omega, show ¬ 86 + e < 16 by omega, show ¬ 86 + e < 28 by omega, show ¬ 86 + e < 40 by omega, show ¬ 86 + e < 44 by omega, show ¬ 86 + e < 48 by omega, show ¬ 86 + e < 72 by omega, show ¬ 86 + e < 86 by omega, show 86 + e < 96 by omega, if_true, if_false], show cl (86 + e) = e by unfold cl; simp only [show ¬ 86 + e = 0 by omega, show ¬ 86 + e = 1 by omega, show ¬ 86 + e = 2 by omega, show ¬ 86 + e = 3 by omega, show ¬ 86 + e < 16 by omega, show ¬ 86 + e < 28 by omega, show ¬ 86 + e < 40 by omega, show ¬ 86 + e < 44 by omega, show ¬ 86 + e < 48 by omega, show ¬ 86 + e < 72 by omega, show ¬ 86 + e < 86 by omega, show 86 + e < 96 by omega, if_true, if_false]; omega] at h0
    have h1 := a (96 + e) (by unfold wlv; omega)
    rw [show cr o (96 + e) = o + 9 by unfold cr; simp only [show ¬ 96 + e < 4 by omega, show ¬ 96 + e < 16 by omega, show ¬ 96 + e < 28 by omega, show ¬ 96 + e < 40 by omega, show ¬ 96 + e < 44 by omega, show ¬ 96 + e < 48 by omega, show ¬ 96 + e < 72 by omega, show ¬ 96 + e < 86 by omega, show ¬ 96 + e < 96 by omega, show 96 + e < 106 by omega, if_true, if_false], show cl (96 + e) = e by unfold cl; simp only [show ¬ 96 + e = 0 by omega, show ¬ 96 + e = 1 by omega, show ¬ 96 + e = 2 by omega, show ¬ 96 + e = 3 by omega, show ¬ 96 + e < 16 by omega, show ¬ 96 + e < 28 by omega, show ¬ 96 + e < 40 by omega, show ¬ 96 + e < 44 by omega, show ¬ 96 + e < 48 by omega, show ¬ 96 + e < 72 by omega, show ¬ 96 + e < 86 by omega, show ¬ 96 + e < 96 by omega, show 96 + e < 106 by omega, if_true, if_false]; omega] at h1
    have h2 := a (106 + e) (by unfold wlv; omega)
    rw [show cr o (106 + e) = o + 10 by unfold cr; simp only [show ¬ 106 + e < 4 by omega, show ¬ 106 + e < 16 by omega, show ¬ 106 + e < 28 by omega, show ¬ 106 + e < 40 by omega, show ¬ 106 + e < 44 by omega, show ¬ 106 + e < 48 by omega, show ¬ 106 + e < 72 by omega, show ¬ 106 + e < 86 by omega, show ¬ 106 + e < 96 by omega, show ¬ 106 + e < 106 by omega, if_false], show cl (106 + e) = e by unfold cl; simp only [show ¬ 106 + e = 0 by omega, show ¬ 106 + e = 1 by omega, show ¬ 106 + e = 2 by omega, show ¬ 106 + e = 3 by omega, show ¬ 106 + e < 16 by omega, show ¬ 106 + e < 28 by omega, show ¬ 106 + e < 40 by omega, show ¬ 106 + e < 44 by omega, show ¬ 106 + e < 48 by omega, show ¬ 106 + e < 72 by omega, show ¬ 106 + e < 86 by omega, show ¬ 106 + e < 96 by omega, show ¬ 106 + e < 106 by omega, if_false]; omega] at h2
    exact ⟨h0, h1, h2⟩
