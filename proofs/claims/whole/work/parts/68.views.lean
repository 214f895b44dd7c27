theorem wlv_ix {t : Nat → Nat} {j : Nat} (h : wlv t j) : wix j := by unfold wlv at h; unfold wix; omega
theorem wv_0 {M : zM} {o : Nat} {t a : Nat → Nat} (hv : zTv M o t) (hp : zTp t) (hw : wall 0 a (wNm 0) 0 = true) (hg : t 0 < 12) : zTv (zput (zput (zput M (o + 1) (t 0) (nI (a 0))) (o + 2) (t 0) (nI (a 1))) (o) 2 (nI (t 0 + 1))) o (wup1 (wup1 (wup1 t 0 (t 0 + 1)) (16 + t 0) (a 0)) (28 + t 0) (a 1)) := by
  obtain ⟨⟨g0, g1, g2, g3⟩, -, -, -, -, -, -, hz⟩ := hp
  have hw' : (wbd 0 0 (a 0) && (wbd 0 1 (a 1) && true)) = true := hw
  simp only [Bool.and_eq_true] at hw'
  have b0 : 1 ≤ a 0 ∧ a 0 ≤ 30 := wbd_iff.mp hw'.1
  have b1 : 10 ≤ a 1 ∧ a 1 ≤ 60 := wbd_iff.mp hw'.2.1
  have c0 : (wup1 (wup1 (wup1 t 0 (t 0 + 1)) (16 + t 0) (a 0)) (28 + t 0) (a 1)) 0 = t 0 + 1 := by rw [wup1_o (by omega), wup1_o (by omega), wup1_at]
  have c1 : (wup1 (wup1 (wup1 t 0 (t 0 + 1)) (16 + t 0) (a 0)) (28 + t 0) (a 1)) 1 = t 1 := by rw [wup1_o (by omega), wup1_o (by omega), wup1_o (by omega)]
  have c2 : (wup1 (wup1 (wup1 t 0 (t 0 + 1)) (16 + t 0) (a 0)) (28 + t 0) (a 1)) 2 = t 2 := by rw [wup1_o (by omega), wup1_o (by omega), wup1_o (by omega)]
  have c3 : (wup1 (wup1 (wup1 t 0 (t 0 + 1)) (16 + t 0) (a 0)) (28 + t 0) (a 1)) 3 = t 3 := by rw [wup1_o (by omega), wup1_o (by omega), wup1_o (by omega)]
  have x0 : wix (16 + t 0) := by unfold wix; omega
  have r0 : cr o (16 + t 0) = o + 1 := by unfold cr; simp only [show ¬ 16 + t 0 < 4 by omega, show ¬ 16 + t 0 < 16 by omega, show 16 + t 0 < 28 by omega, if_true, if_false]
  have l0 : cl (16 + t 0) = (t 0) := by unfold cl; simp only [show ¬ 16 + t 0 = 0 by omega, show ¬ 16 + t 0 = 1 by omega, show ¬ 16 + t 0 = 2 by omega, show ¬ 16 + t 0 = 3 by omega, show ¬ 16 + t 0 < 16 by omega, show 16 + t 0 < 28 by omega, if_true, if_false]; omega
  have x1 : wix (28 + t 0) := by unfold wix; omega
  have r1 : cr o (28 + t 0) = o + 2 := by unfold cr; simp only [show ¬ 28 + t 0 < 4 by omega, show ¬ 28 + t 0 < 16 by omega, show ¬ 28 + t 0 < 28 by omega, show 28 + t 0 < 40 by omega, if_true, if_false]
  have l1 : cl (28 + t 0) = (t 0) := by unfold cl; simp only [show ¬ 28 + t 0 = 0 by omega, show ¬ 28 + t 0 = 1 by omega, show ¬ 28 + t 0 = 2 by omega, show ¬ 28 + t 0 = 3 by omega, show ¬ 28 + t 0 < 16 by omega, show ¬ 28 + t 0 < 28 by omega, show 28 + t 0 < 40 by omega, if_true, if_false]; omega
  have x2 : wix 0 := by unfold wix; omega
  have r2 : cr o 0 = o := rfl
  have l2 : cl 0 = 2 := rfl
  have eP : (zput (zput (zput M (cr o (16 + t 0)) (cl (16 + t 0)) (nI (a 0))) (cr o (28 + t 0)) (cl (28 + t 0)) (nI (a 1))) (cr o 0) (cl 0) (nI (t 0 + 1))) = (zput (zput (zput M (o + 1) (t 0) (nI (a 0))) (o + 2) (t 0) (nI (a 1))) (o) 2 (nI (t 0 + 1))) := by rw [r0, l0, r1, l1, r2, l2]
  rw [← eP]
  refine ⟨fun j hj => ?_, ?_⟩
  · have xj : wix j := wlv_ix hj
    have hl : j ≠ (16 + t 0) → j ≠ (28 + t 0) → j ≠ 0 → wlv t j := by
      intro q0 q1 q2
      unfold wlv at hj ⊢
      rw [c0, c1, c2, c3] at hj
      rcases hj with h | h | h | h | h | h | h | h | h | h
      · exact Or.inl h
      · exact Or.inr (Or.inl (by omega))
      · exact Or.inr (Or.inr (Or.inl (by omega)))
      · exact Or.inr (Or.inr (Or.inr (Or.inl (by omega))))
      · exact Or.inr (Or.inr (Or.inr (Or.inr (Or.inl (by omega)))))
      · exact Or.inr (Or.inr (Or.inr (Or.inr (Or.inr (Or.inl h)))))
      · exact Or.inr (Or.inr (Or.inr (Or.inr (Or.inr (Or.inr (Or.inl (by omega)))))))
      · exact Or.inr (Or.inr (Or.inr (Or.inr (Or.inr (Or.inr (Or.inr (Or.inl (by omega))))))))
      · exact Or.inr (Or.inr (Or.inr (Or.inr (Or.inr (Or.inr (Or.inr (Or.inr (Or.inl (by omega)))))))))
      · exact Or.inr (Or.inr (Or.inr (Or.inr (Or.inr (Or.inr (Or.inr (Or.inr (Or.inr ((by omega))))))))))
    rw [zput_cell x2 xj, zput_cell x1 xj, zput_cell x0 xj]
    simp only [wup1]
    by_cases y0 : j = (16 + t 0)
    · (repeat' split) <;> first | (exfalso; omega) | rfl
    by_cases y1 : j = (28 + t 0)
    · (repeat' split) <;> first | (exfalso; omega) | rfl
    by_cases y2 : j = 0
    · (repeat' split) <;> first | (exfalso; omega) | rfl
    (repeat' split) <;> first | (exfalso; omega) | exact hv.1 j (hl y0 y1 y2)
  · rw [zput_14 x2, zput_14 x1, zput_14 x0, hv.2, c2]
    rw [zbits_congr (f := fun q => t (79 + q)) (g := fun q => (wup1 (wup1 (wup1 t 0 (t 0 + 1)) (16 + t 0) (a 0)) (28 + t 0) (a 1)) (79 + q)) (fun q hq => by rw [wup1_o (by omega), wup1_o (by omega), wup1_o (by omega)])]
theorem wv_1 {M : zM} {o : Nat} {t a : Nat → Nat} (hv : zTv M o t) (hp : zTp t) (hw : wall 1 a (wNm 1) 0 = true) : zTv (zput (zput (zput M (o + 3) 0 (nI (a 0))) (o + 3) 1 (nI (a 1))) (o + 3) 2 (nI (a 2))) o (wup1 (wup1 (wup1 t 4 (a 0)) 5 (a 1)) 6 (a 2)) := by
  obtain ⟨⟨g0, g1, g2, g3⟩, -, -, -, -, -, -, hz⟩ := hp
  have hw' : (wbd 1 0 (a 0) && (wbd 1 1 (a 1) && (wbd 1 2 (a 2) && true))) = true := hw
  simp only [Bool.and_eq_true] at hw'
  have b0 : 3 ≤ a 0 ∧ a 0 ≤ 40 := wbd_iff.mp hw'.1
  have b1 : 1 ≤ a 1 ∧ a 1 ≤ 60 := wbd_iff.mp hw'.2.1
  have b2 : 1 ≤ a 2 ∧ a 2 ≤ 99 := wbd_iff.mp hw'.2.2.1
  have c0 : (wup1 (wup1 (wup1 t 4 (a 0)) 5 (a 1)) 6 (a 2)) 0 = t 0 := by rw [wup1_o (by omega), wup1_o (by omega), wup1_o (by omega)]
  have c1 : (wup1 (wup1 (wup1 t 4 (a 0)) 5 (a 1)) 6 (a 2)) 1 = t 1 := by rw [wup1_o (by omega), wup1_o (by omega), wup1_o (by omega)]
  have c2 : (wup1 (wup1 (wup1 t 4 (a 0)) 5 (a 1)) 6 (a 2)) 2 = t 2 := by rw [wup1_o (by omega), wup1_o (by omega), wup1_o (by omega)]
  have c3 : (wup1 (wup1 (wup1 t 4 (a 0)) 5 (a 1)) 6 (a 2)) 3 = t 3 := by rw [wup1_o (by omega), wup1_o (by omega), wup1_o (by omega)]
  have x0 : wix 4 := by unfold wix; omega
  have r0 : cr o 4 = o + 3 := rfl
  have l0 : cl 4 = 0 := rfl
  have x1 : wix 5 := by unfold wix; omega
  have r1 : cr o 5 = o + 3 := rfl
  have l1 : cl 5 = 1 := rfl
  have x2 : wix 6 := by unfold wix; omega
  have r2 : cr o 6 = o + 3 := rfl
  have l2 : cl 6 = 2 := rfl
  have eP : (zput (zput (zput M (cr o 4) (cl 4) (nI (a 0))) (cr o 5) (cl 5) (nI (a 1))) (cr o 6) (cl 6) (nI (a 2))) = (zput (zput (zput M (o + 3) 0 (nI (a 0))) (o + 3) 1 (nI (a 1))) (o + 3) 2 (nI (a 2))) := by rw [r0, l0, r1, l1, r2, l2]
  rw [← eP]
  refine ⟨fun j hj => ?_, ?_⟩
  · have xj : wix j := wlv_ix hj
    have hl : j ≠ 4 → j ≠ 5 → j ≠ 6 → wlv t j := by
      intro q0 q1 q2
      unfold wlv at hj ⊢
      rw [c0, c1, c2, c3] at hj
      rcases hj with h | h | h | h | h | h | h | h | h | h
      · exact Or.inl h
      · exact Or.inr (Or.inl (by omega))
      · exact Or.inr (Or.inr (Or.inl (by omega)))
      · exact Or.inr (Or.inr (Or.inr (Or.inl (by omega))))
      · exact Or.inr (Or.inr (Or.inr (Or.inr (Or.inl (by omega)))))
      · exact Or.inr (Or.inr (Or.inr (Or.inr (Or.inr (Or.inl h)))))
      · exact Or.inr (Or.inr (Or.inr (Or.inr (Or.inr (Or.inr (Or.inl (by omega)))))))
      · exact Or.inr (Or.inr (Or.inr (Or.inr (Or.inr (Or.inr (Or.inr (Or.inl (by omega))))))))
      · exact Or.inr (Or.inr (Or.inr (Or.inr (Or.inr (Or.inr (Or.inr (Or.inr (Or.inl (by omega)))))))))
      · exact Or.inr (Or.inr (Or.inr (Or.inr (Or.inr (Or.inr (Or.inr (Or.inr (Or.inr ((by omega))))))))))
    rw [zput_cell x2 xj, zput_cell x1 xj, zput_cell x0 xj]
    simp only [wup1]
    by_cases y0 : j = 4
    · (repeat' split) <;> first | (exfalso; omega) | rfl
    by_cases y1 : j = 5
    · (repeat' split) <;> first | (exfalso; omega) | rfl
    by_cases y2 : j = 6
    · (repeat' split) <;> first | (exfalso; omega) | rfl
    (repeat' split) <;> first | (exfalso; omega) | exact hv.1 j (hl y0 y1 y2)
  · rw [zput_14 x2, zput_14 x1, zput_14 x0, hv.2, c2]
    rw [zbits_congr (f := fun q => t (79 + q)) (g := fun q => (wup1 (wup1 (wup1 t 4 (a 0)) 5 (a 1)) 6 (a 2)) (79 + q)) (fun q hq => by rw [wup1_o (by omega), wup1_o (by omega), wup1_o (by omega)])]
theorem wv_2 {M : zM} {o : Nat} {t a : Nat → Nat} (hv : zTv M o t) (hp : zTp t) (hw : wall 2 a (wNm 2) 0 = true) : zTv (zput M (o + 3) 3 (nI (a 0))) o (wup1 t 7 (a 0)) := by
  obtain ⟨⟨g0, g1, g2, g3⟩, -, -, -, -, -, -, hz⟩ := hp
  have hw' : (wbd 2 0 (a 0) && true) = true := hw
  simp only [Bool.and_eq_true] at hw'
  have b0 : 0 ≤ a 0 ∧ a 0 ≤ 40 := wbd_iff.mp hw'.1
  have c0 : (wup1 t 7 (a 0)) 0 = t 0 := by rw [wup1_o (by omega)]
  have c1 : (wup1 t 7 (a 0)) 1 = t 1 := by rw [wup1_o (by omega)]
  have c2 : (wup1 t 7 (a 0)) 2 = t 2 := by rw [wup1_o (by omega)]
  have c3 : (wup1 t 7 (a 0)) 3 = t 3 := by rw [wup1_o (by omega)]
  have x0 : wix 7 := by unfold wix; omega
  have r0 : cr o 7 = o + 3 := rfl
  have l0 : cl 7 = 3 := rfl
  have eP : (zput M (cr o 7) (cl 7) (nI (a 0))) = (zput M (o + 3) 3 (nI (a 0))) := by rw [r0, l0]
  rw [← eP]
  refine ⟨fun j hj => ?_, ?_⟩
  · have xj : wix j := wlv_ix hj
    have hl : j ≠ 7 → wlv t j := by
      intro q0
      unfold wlv at hj ⊢
      rw [c0, c1, c2, c3] at hj
      rcases hj with h | h | h | h | h | h | h | h | h | h
      · exact Or.inl h
      · exact Or.inr (Or.inl (by omega))
      · exact Or.inr (Or.inr (Or.inl (by omega)))
      · exact Or.inr (Or.inr (Or.inr (Or.inl (by omega))))
      · exact Or.inr (Or.inr (Or.inr (Or.inr (Or.inl (by omega)))))
      · exact Or.inr (Or.inr (Or.inr (Or.inr (Or.inr (Or.inl h)))))
      · exact Or.inr (Or.inr (Or.inr (Or.inr (Or.inr (Or.inr (Or.inl (by omega)))))))
      · exact Or.inr (Or.inr (Or.inr (Or.inr (Or.inr (Or.inr (Or.inr (Or.inl (by omega))))))))
      · exact Or.inr (Or.inr (Or.inr (Or.inr (Or.inr (Or.inr (Or.inr (Or.inr (Or.inl (by omega)))))))))
      · exact Or.inr (Or.inr (Or.inr (Or.inr (Or.inr (Or.inr (Or.inr (Or.inr (Or.inr ((by omega))))))))))
    rw [zput_cell x0 xj]
    simp only [wup1]
    by_cases y0 : j = 7
    · (repeat' split) <;> first | (exfalso; omega) | rfl
    (repeat' split) <;> first | (exfalso; omega) | exact hv.1 j (hl y0)
  · rw [zput_14 x0, hv.2, c2]
    rw [zbits_congr (f := fun q => t (79 + q)) (g := fun q => (wup1 t 7 (a 0)) (79 + q)) (fun q hq => by rw [wup1_o (by omega)])]
theorem wv_3 {M : zM} {o : Nat} {t a : Nat → Nat} (hv : zTv M o t) (hp : zTp t) (hw : wall 3 a (wNm 3) 0 = true) : zTv (zput (zput (zput M (o + 3) 4 (nI (a 0))) (o + 3) 5 (nI (a 1))) (o + 3) 6 (nI (a 2))) o (wup1 (wup1 (wup1 t 8 (a 0)) 9 (a 1)) 10 (a 2)) := by
  obtain ⟨⟨g0, g1, g2, g3⟩, -, -, -, -, -, -, hz⟩ := hp
  have hw' : (wbd 3 0 (a 0) && (wbd 3 1 (a 1) && (wbd 3 2 (a 2) && true))) = true := hw
  simp only [Bool.and_eq_true] at hw'
  have b0 : 0 ≤ a 0 ∧ a 0 ≤ 40 := wbd_iff.mp hw'.1
  have b1 : 0 ≤ a 1 ∧ a 1 ≤ 99 := wbd_iff.mp hw'.2.1
  have b2 : 0 ≤ a 2 ∧ a 2 ≤ 99 := wbd_iff.mp hw'.2.2.1
  have c0 : (wup1 (wup1 (wup1 t 8 (a 0)) 9 (a 1)) 10 (a 2)) 0 = t 0 := by rw [wup1_o (by omega), wup1_o (by omega), wup1_o (by omega)]
  have c1 : (wup1 (wup1 (wup1 t 8 (a 0)) 9 (a 1)) 10 (a 2)) 1 = t 1 := by rw [wup1_o (by omega), wup1_o (by omega), wup1_o (by omega)]
  have c2 : (wup1 (wup1 (wup1 t 8 (a 0)) 9 (a 1)) 10 (a 2)) 2 = t 2 := by rw [wup1_o (by omega), wup1_o (by omega), wup1_o (by omega)]
  have c3 : (wup1 (wup1 (wup1 t 8 (a 0)) 9 (a 1)) 10 (a 2)) 3 = t 3 := by rw [wup1_o (by omega), wup1_o (by omega), wup1_o (by omega)]
  have x0 : wix 8 := by unfold wix; omega
  have r0 : cr o 8 = o + 3 := rfl
  have l0 : cl 8 = 4 := rfl
  have x1 : wix 9 := by unfold wix; omega
  have r1 : cr o 9 = o + 3 := rfl
  have l1 : cl 9 = 5 := rfl
  have x2 : wix 10 := by unfold wix; omega
  have r2 : cr o 10 = o + 3 := rfl
  have l2 : cl 10 = 6 := rfl
  have eP : (zput (zput (zput M (cr o 8) (cl 8) (nI (a 0))) (cr o 9) (cl 9) (nI (a 1))) (cr o 10) (cl 10) (nI (a 2))) = (zput (zput (zput M (o + 3) 4 (nI (a 0))) (o + 3) 5 (nI (a 1))) (o + 3) 6 (nI (a 2))) := by rw [r0, l0, r1, l1, r2, l2]
  rw [← eP]
  refine ⟨fun j hj => ?_, ?_⟩
  · have xj : wix j := wlv_ix hj
    have hl : j ≠ 8 → j ≠ 9 → j ≠ 10 → wlv t j := by
      intro q0 q1 q2
      unfold wlv at hj ⊢
      rw [c0, c1, c2, c3] at hj
      rcases hj with h | h | h | h | h | h | h | h | h | h
      · exact Or.inl h
      · exact Or.inr (Or.inl (by omega))
      · exact Or.inr (Or.inr (Or.inl (by omega)))
      · exact Or.inr (Or.inr (Or.inr (Or.inl (by omega))))
      · exact Or.inr (Or.inr (Or.inr (Or.inr (Or.inl (by omega)))))
      · exact Or.inr (Or.inr (Or.inr (Or.inr (Or.inr (Or.inl h)))))
      · exact Or.inr (Or.inr (Or.inr (Or.inr (Or.inr (Or.inr (Or.inl (by omega)))))))
      · exact Or.inr (Or.inr (Or.inr (Or.inr (Or.inr (Or.inr (Or.inr (Or.inl (by omega))))))))
      · exact Or.inr (Or.inr (Or.inr (Or.inr (Or.inr (Or.inr (Or.inr (Or.inr (Or.inl (by omega)))))))))
      · exact Or.inr (Or.inr (Or.inr (Or.inr (Or.inr (Or.inr (Or.inr (Or.inr (Or.inr ((by omega))))))))))
    rw [zput_cell x2 xj, zput_cell x1 xj, zput_cell x0 xj]
    simp only [wup1]
    by_cases y0 : j = 8
    · (repeat' split) <;> first | (exfalso; omega) | rfl
    by_cases y1 : j = 9
    · (repeat' split) <;> first | (exfalso; omega) | rfl
    by_cases y2 : j = 10
    · (repeat' split) <;> first | (exfalso; omega) | rfl
    (repeat' split) <;> first | (exfalso; omega) | exact hv.1 j (hl y0 y1 y2)
  · rw [zput_14 x2, zput_14 x1, zput_14 x0, hv.2, c2]
    rw [zbits_congr (f := fun q => t (79 + q)) (g := fun q => (wup1 (wup1 (wup1 t 8 (a 0)) 9 (a 1)) 10 (a 2)) (79 + q)) (fun q hq => by rw [wup1_o (by omega), wup1_o (by omega), wup1_o (by omega)])]
theorem wv_4 {M : zM} {o : Nat} {t a : Nat → Nat} (hv : zTv M o t) (hp : zTp t) (hw : wall 4 a (wNm 4) 0 = true) : zTv (zput (zput M (o + 3) 7 (nI (a 0))) (o + 3) 8 (nI (a 1))) o (wup1 (wup1 t 11 (a 0)) 12 (a 1)) := by
  obtain ⟨⟨g0, g1, g2, g3⟩, -, -, -, -, -, -, hz⟩ := hp
  have hw' : (wbd 4 0 (a 0) && (wbd 4 1 (a 1) && true)) = true := hw
  simp only [Bool.and_eq_true] at hw'
  have b0 : 1 ≤ a 0 ∧ a 0 ≤ 99 := wbd_iff.mp hw'.1
  have b1 : 1 ≤ a 1 ∧ a 1 ≤ 99 := wbd_iff.mp hw'.2.1
  have c0 : (wup1 (wup1 t 11 (a 0)) 12 (a 1)) 0 = t 0 := by rw [wup1_o (by omega), wup1_o (by omega)]
  have c1 : (wup1 (wup1 t 11 (a 0)) 12 (a 1)) 1 = t 1 := by rw [wup1_o (by omega), wup1_o (by omega)]
  have c2 : (wup1 (wup1 t 11 (a 0)) 12 (a 1)) 2 = t 2 := by rw [wup1_o (by omega), wup1_o (by omega)]
  have c3 : (wup1 (wup1 t 11 (a 0)) 12 (a 1)) 3 = t 3 := by rw [wup1_o (by omega), wup1_o (by omega)]
  have x0 : wix 11 := by unfold wix; omega
  have r0 : cr o 11 = o + 3 := rfl
  have l0 : cl 11 = 7 := rfl
  have x1 : wix 12 := by unfold wix; omega
  have r1 : cr o 12 = o + 3 := rfl
  have l1 : cl 12 = 8 := rfl
  have eP : (zput (zput M (cr o 11) (cl 11) (nI (a 0))) (cr o 12) (cl 12) (nI (a 1))) = (zput (zput M (o + 3) 7 (nI (a 0))) (o + 3) 8 (nI (a 1))) := by rw [r0, l0, r1, l1]
  rw [← eP]
  refine ⟨fun j hj => ?_, ?_⟩
  · have xj : wix j := wlv_ix hj
    have hl : j ≠ 11 → j ≠ 12 → wlv t j := by
      intro q0 q1
      unfold wlv at hj ⊢
      rw [c0, c1, c2, c3] at hj
      rcases hj with h | h | h | h | h | h | h | h | h | h
      · exact Or.inl h
      · exact Or.inr (Or.inl (by omega))
      · exact Or.inr (Or.inr (Or.inl (by omega)))
      · exact Or.inr (Or.inr (Or.inr (Or.inl (by omega))))
      · exact Or.inr (Or.inr (Or.inr (Or.inr (Or.inl (by omega)))))
      · exact Or.inr (Or.inr (Or.inr (Or.inr (Or.inr (Or.inl h)))))
      · exact Or.inr (Or.inr (Or.inr (Or.inr (Or.inr (Or.inr (Or.inl (by omega)))))))
      · exact Or.inr (Or.inr (Or.inr (Or.inr (Or.inr (Or.inr (Or.inr (Or.inl (by omega))))))))
      · exact Or.inr (Or.inr (Or.inr (Or.inr (Or.inr (Or.inr (Or.inr (Or.inr (Or.inl (by omega)))))))))
      · exact Or.inr (Or.inr (Or.inr (Or.inr (Or.inr (Or.inr (Or.inr (Or.inr (Or.inr ((by omega))))))))))
    rw [zput_cell x1 xj, zput_cell x0 xj]
    simp only [wup1]
    by_cases y0 : j = 11
    · (repeat' split) <;> first | (exfalso; omega) | rfl
    by_cases y1 : j = 12
    · (repeat' split) <;> first | (exfalso; omega) | rfl
    (repeat' split) <;> first | (exfalso; omega) | exact hv.1 j (hl y0 y1)
  · rw [zput_14 x1, zput_14 x0, hv.2, c2]
    rw [zbits_congr (f := fun q => t (79 + q)) (g := fun q => (wup1 (wup1 t 11 (a 0)) 12 (a 1)) (79 + q)) (fun q hq => by rw [wup1_o (by omega), wup1_o (by omega)])]
theorem wv_5 {M : zM} {o : Nat} {t a : Nat → Nat} (hv : zTv M o t) (hp : zTp t) (hw : wall 5 a (wNm 5) 0 = true) (hg : t 1 < 4) : zTv (zput (zput (zput M (o + 4) (t 1) (nI (a 0))) (o + 5) (t 1) (nI (a 1))) (o) 6 (nI (t 1 + 1))) o (wup1 (wup1 (wup1 t 1 (t 1 + 1)) (40 + t 1) (a 0)) (44 + t 1) (a 1)) := by
  obtain ⟨⟨g0, g1, g2, g3⟩, -, -, -, -, -, -, hz⟩ := hp
  have hw' : (wbd 5 0 (a 0) && (wbd 5 1 (a 1) && true)) = true := hw
  simp only [Bool.and_eq_true] at hw'
  have b0 : 1 ≤ a 0 ∧ a 0 ≤ 99 := wbd_iff.mp hw'.1
  have b1 : 0 ≤ a 1 ∧ a 1 ≤ 10 := wbd_iff.mp hw'.2.1
  have c0 : (wup1 (wup1 (wup1 t 1 (t 1 + 1)) (40 + t 1) (a 0)) (44 + t 1) (a 1)) 0 = t 0 := by rw [wup1_o (by omega), wup1_o (by omega), wup1_o (by omega)]
  have c1 : (wup1 (wup1 (wup1 t 1 (t 1 + 1)) (40 + t 1) (a 0)) (44 + t 1) (a 1)) 1 = t 1 + 1 := by rw [wup1_o (by omega), wup1_o (by omega), wup1_at]
  have c2 : (wup1 (wup1 (wup1 t 1 (t 1 + 1)) (40 + t 1) (a 0)) (44 + t 1) (a 1)) 2 = t 2 := by rw [wup1_o (by omega), wup1_o (by omega), wup1_o (by omega)]
  have c3 : (wup1 (wup1 (wup1 t 1 (t 1 + 1)) (40 + t 1) (a 0)) (44 + t 1) (a 1)) 3 = t 3 := by rw [wup1_o (by omega), wup1_o (by omega), wup1_o (by omega)]
  have x0 : wix (40 + t 1) := by unfold wix; omega
  have r0 : cr o (40 + t 1) = o + 4 := by unfold cr; simp only [show ¬ 40 + t 1 < 4 by omega, show ¬ 40 + t 1 < 16 by omega, show ¬ 40 + t 1 < 28 by omega, show ¬ 40 + t 1 < 40 by omega, show 40 + t 1 < 44 by omega, if_true, if_false]
  have l0 : cl (40 + t 1) = (t 1) := by unfold cl; simp only [show ¬ 40 + t 1 = 0 by omega, show ¬ 40 + t 1 = 1 by omega, show ¬ 40 + t 1 = 2 by omega, show ¬ 40 + t 1 = 3 by omega, show ¬ 40 + t 1 < 16 by omega, show ¬ 40 + t 1 < 28 by omega, show ¬ 40 + t 1 < 40 by omega, show 40 + t 1 < 44 by omega, if_true, if_false]; omega
  have x1 : wix (44 + t 1) := by unfold wix; omega
  have r1 : cr o (44 + t 1) = o + 5 := by unfold cr; simp only [show ¬ 44 + t 1 < 4 by omega, show ¬ 44 + t 1 < 16 by omega, show ¬ 44 + t 1 < 28 by omega, show ¬ 44 + t 1 < 40 by omega, show ¬ 44 + t 1 < 44 by omega, show 44 + t 1 < 48 by omega, if_true, if_false]
  have l1 : cl (44 + t 1) = (t 1) := by unfold cl; simp only [show ¬ 44 + t 1 = 0 by omega, show ¬ 44 + t 1 = 1 by omega, show ¬ 44 + t 1 = 2 by omega, show ¬ 44 + t 1 = 3 by omega, show ¬ 44 + t 1 < 16 by omega, show ¬ 44 + t 1 < 28 by omega, show ¬ 44 + t 1 < 40 by omega, show ¬ 44 + t 1 < 44 by omega, show 44 + t 1 < 48 by omega, if_true, if_false]; omega
  have x2 : wix 1 := by unfold wix; omega
  have r2 : cr o 1 = o := rfl
  have l2 : cl 1 = 6 := rfl
  have eP : (zput (zput (zput M (cr o (40 + t 1)) (cl (40 + t 1)) (nI (a 0))) (cr o (44 + t 1)) (cl (44 + t 1)) (nI (a 1))) (cr o 1) (cl 1) (nI (t 1 + 1))) = (zput (zput (zput M (o + 4) (t 1) (nI (a 0))) (o + 5) (t 1) (nI (a 1))) (o) 6 (nI (t 1 + 1))) := by rw [r0, l0, r1, l1, r2, l2]
  rw [← eP]
  refine ⟨fun j hj => ?_, ?_⟩
  · have xj : wix j := wlv_ix hj
    have hl : j ≠ (40 + t 1) → j ≠ (44 + t 1) → j ≠ 1 → wlv t j := by
      intro q0 q1 q2
      unfold wlv at hj ⊢
      rw [c0, c1, c2, c3] at hj
      rcases hj with h | h | h | h | h | h | h | h | h | h
      · exact Or.inl h
      · exact Or.inr (Or.inl (by omega))
      · exact Or.inr (Or.inr (Or.inl (by omega)))
      · exact Or.inr (Or.inr (Or.inr (Or.inl (by omega))))
      · exact Or.inr (Or.inr (Or.inr (Or.inr (Or.inl (by omega)))))
      · exact Or.inr (Or.inr (Or.inr (Or.inr (Or.inr (Or.inl h)))))
      · exact Or.inr (Or.inr (Or.inr (Or.inr (Or.inr (Or.inr (Or.inl (by omega)))))))
      · exact Or.inr (Or.inr (Or.inr (Or.inr (Or.inr (Or.inr (Or.inr (Or.inl (by omega))))))))
      · exact Or.inr (Or.inr (Or.inr (Or.inr (Or.inr (Or.inr (Or.inr (Or.inr (Or.inl (by omega)))))))))
      · exact Or.inr (Or.inr (Or.inr (Or.inr (Or.inr (Or.inr (Or.inr (Or.inr (Or.inr ((by omega))))))))))
    rw [zput_cell x2 xj, zput_cell x1 xj, zput_cell x0 xj]
    simp only [wup1]
    by_cases y0 : j = (40 + t 1)
    · (repeat' split) <;> first | (exfalso; omega) | rfl
    by_cases y1 : j = (44 + t 1)
    · (repeat' split) <;> first | (exfalso; omega) | rfl
    by_cases y2 : j = 1
    · (repeat' split) <;> first | (exfalso; omega) | rfl
    (repeat' split) <;> first | (exfalso; omega) | exact hv.1 j (hl y0 y1 y2)
  · rw [zput_14 x2, zput_14 x1, zput_14 x0, hv.2, c2]
    rw [zbits_congr (f := fun q => t (79 + q)) (g := fun q => (wup1 (wup1 (wup1 t 1 (t 1 + 1)) (40 + t 1) (a 0)) (44 + t 1) (a 1)) (79 + q)) (fun q hq => by rw [wup1_o (by omega), wup1_o (by omega), wup1_o (by omega)])]
theorem wv_6 {M : zM} {o : Nat} {t a : Nat → Nat} (hv : zTv M o t) (hp : zTp t) (hw : wall 6 a (wNm 6) 0 = true) : zTv (zput M (o + 6) (a 0) (nI (a 1))) o (wup1 t (48 + a 0) (a 1)) := by
  obtain ⟨⟨g0, g1, g2, g3⟩, -, -, -, -, -, -, hz⟩ := hp
  have hw' : (wbd 6 0 (a 0) && (wbd 6 1 (a 1) && true)) = true := hw
  simp only [Bool.and_eq_true] at hw'
  have b0 : 0 ≤ a 0 ∧ a 0 ≤ 23 := wbd_iff.mp hw'.1
  have b1 : 0 ≤ a 1 ∧ a 1 ≤ 9 := wbd_iff.mp hw'.2.1
  have c0 : (wup1 t (48 + a 0) (a 1)) 0 = t 0 := by rw [wup1_o (by omega)]
  have c1 : (wup1 t (48 + a 0) (a 1)) 1 = t 1 := by rw [wup1_o (by omega)]
  have c2 : (wup1 t (48 + a 0) (a 1)) 2 = t 2 := by rw [wup1_o (by omega)]
  have c3 : (wup1 t (48 + a 0) (a 1)) 3 = t 3 := by rw [wup1_o (by omega)]
  have x0 : wix (48 + a 0) := by unfold wix; omega
  have r0 : cr o (48 + a 0) = o + 6 := by unfold cr; simp only [show ¬ 48 + a 0 < 4 by omega, show ¬ 48 + a 0 < 16 by omega, show ¬ 48 + a 0 < 28 by omega, show ¬ 48 + a 0 < 40 by omega, show ¬ 48 + a 0 < 44 by omega, show ¬ 48 + a 0 < 48 by omega, show 48 + a 0 < 72 by omega, if_true, if_false]
  have l0 : cl (48 + a 0) = (a 0) := by unfold cl; simp only [show ¬ 48 + a 0 = 0 by omega, show ¬ 48 + a 0 = 1 by omega, show ¬ 48 + a 0 = 2 by omega, show ¬ 48 + a 0 = 3 by omega, show ¬ 48 + a 0 < 16 by omega, show ¬ 48 + a 0 < 28 by omega, show ¬ 48 + a 0 < 40 by omega, show ¬ 48 + a 0 < 44 by omega, show ¬ 48 + a 0 < 48 by omega, show 48 + a 0 < 72 by omega, if_true, if_false]; omega
  have eP : (zput M (cr o (48 + a 0)) (cl (48 + a 0)) (nI (a 1))) = (zput M (o + 6) (a 0) (nI (a 1))) := by rw [r0, l0]
  rw [← eP]
  refine ⟨fun j hj => ?_, ?_⟩
  · have xj : wix j := wlv_ix hj
    have hl : j ≠ (48 + a 0) → wlv t j := by
      intro q0
      unfold wlv at hj ⊢
      rw [c0, c1, c2, c3] at hj
      rcases hj with h | h | h | h | h | h | h | h | h | h
      · exact Or.inl h
      · exact Or.inr (Or.inl (by omega))
      · exact Or.inr (Or.inr (Or.inl (by omega)))
      · exact Or.inr (Or.inr (Or.inr (Or.inl (by omega))))
      · exact Or.inr (Or.inr (Or.inr (Or.inr (Or.inl (by omega)))))
      · exact Or.inr (Or.inr (Or.inr (Or.inr (Or.inr (Or.inl h)))))
      · exact Or.inr (Or.inr (Or.inr (Or.inr (Or.inr (Or.inr (Or.inl (by omega)))))))
      · exact Or.inr (Or.inr (Or.inr (Or.inr (Or.inr (Or.inr (Or.inr (Or.inl (by omega))))))))
      · exact Or.inr (Or.inr (Or.inr (Or.inr (Or.inr (Or.inr (Or.inr (Or.inr (Or.inl (by omega)))))))))
      · exact Or.inr (Or.inr (Or.inr (Or.inr (Or.inr (Or.inr (Or.inr (Or.inr (Or.inr ((by omega))))))))))
    rw [zput_cell x0 xj]
    simp only [wup1]
    by_cases y0 : j = (48 + a 0)
    · (repeat' split) <;> first | (exfalso; omega) | rfl
    (repeat' split) <;> first | (exfalso; omega) | exact hv.1 j (hl y0)
  · rw [zput_14 x0, hv.2, c2]
    rw [zbits_congr (f := fun q => t (79 + q)) (g := fun q => (wup1 t (48 + a 0) (a 1)) (79 + q)) (fun q hq => by rw [wup1_o (by omega)])]
theorem wv_7 {M : zM} {o : Nat} {t a : Nat → Nat} (hv : zTv M o t) (hp : zTp t) (hw : wall 7 a (wNm 7) 0 = true) : zTv (zput (zput M (o + 3) 9 (nI (a 0))) (o + 3) 10 (nI (a 1))) o (wup1 (wup1 t 13 (a 0)) 14 (a 1)) := by
  obtain ⟨⟨g0, g1, g2, g3⟩, -, -, -, -, -, -, hz⟩ := hp
  have hw' : (wbd 7 0 (a 0) && (wbd 7 1 (a 1) && true)) = true := hw
  simp only [Bool.and_eq_true] at hw'
  have b0 : 0 ≤ a 0 ∧ a 0 ≤ 99 := wbd_iff.mp hw'.1
  have b1 : 0 ≤ a 1 ∧ a 1 ≤ 99 := wbd_iff.mp hw'.2.1
  have c0 : (wup1 (wup1 t 13 (a 0)) 14 (a 1)) 0 = t 0 := by rw [wup1_o (by omega), wup1_o (by omega)]
  have c1 : (wup1 (wup1 t 13 (a 0)) 14 (a 1)) 1 = t 1 := by rw [wup1_o (by omega), wup1_o (by omega)]
  have c2 : (wup1 (wup1 t 13 (a 0)) 14 (a 1)) 2 = t 2 := by rw [wup1_o (by omega), wup1_o (by omega)]
  have c3 : (wup1 (wup1 t 13 (a 0)) 14 (a 1)) 3 = t 3 := by rw [wup1_o (by omega), wup1_o (by omega)]
  have x0 : wix 13 := by unfold wix; omega
  have r0 : cr o 13 = o + 3 := rfl
  have l0 : cl 13 = 9 := rfl
  have x1 : wix 14 := by unfold wix; omega
  have r1 : cr o 14 = o + 3 := rfl
  have l1 : cl 14 = 10 := rfl
  have eP : (zput (zput M (cr o 13) (cl 13) (nI (a 0))) (cr o 14) (cl 14) (nI (a 1))) = (zput (zput M (o + 3) 9 (nI (a 0))) (o + 3) 10 (nI (a 1))) := by rw [r0, l0, r1, l1]
  rw [← eP]
  refine ⟨fun j hj => ?_, ?_⟩
  · have xj : wix j := wlv_ix hj
    have hl : j ≠ 13 → j ≠ 14 → wlv t j := by
      intro q0 q1
      unfold wlv at hj ⊢
      rw [c0, c1, c2, c3] at hj
      rcases hj with h | h | h | h | h | h | h | h | h | h
      · exact Or.inl h
      · exact Or.inr (Or.inl (by omega))
      · exact Or.inr (Or.inr (Or.inl (by omega)))
      · exact Or.inr (Or.inr (Or.inr (Or.inl (by omega))))
      · exact Or.inr (Or.inr (Or.inr (Or.inr (Or.inl (by omega)))))
      · exact Or.inr (Or.inr (Or.inr (Or.inr (Or.inr (Or.inl h)))))
      · exact Or.inr (Or.inr (Or.inr (Or.inr (Or.inr (Or.inr (Or.inl (by omega)))))))
      · exact Or.inr (Or.inr (Or.inr (Or.inr (Or.inr (Or.inr (Or.inr (Or.inl (by omega))))))))
      · exact Or.inr (Or.inr (Or.inr (Or.inr (Or.inr (Or.inr (Or.inr (Or.inr (Or.inl (by omega)))))))))
      · exact Or.inr (Or.inr (Or.inr (Or.inr (Or.inr (Or.inr (Or.inr (Or.inr (Or.inr ((by omega))))))))))
    rw [zput_cell x1 xj, zput_cell x0 xj]
    simp only [wup1]
    by_cases y0 : j = 13
    · (repeat' split) <;> first | (exfalso; omega) | rfl
    by_cases y1 : j = 14
    · (repeat' split) <;> first | (exfalso; omega) | rfl
    (repeat' split) <;> first | (exfalso; omega) | exact hv.1 j (hl y0 y1)
  · rw [zput_14 x1, zput_14 x0, hv.2, c2]
    rw [zbits_congr (f := fun q => t (79 + q)) (g := fun q => (wup1 (wup1 t 13 (a 0)) 14 (a 1)) (79 + q)) (fun q hq => by rw [wup1_o (by omega), wup1_o (by omega)])]
theorem wv_8 {M : zM} {o : Nat} {t a : Nat → Nat} (hv : zTv M o t) (hp : zTp t) (hw : wall 8 a (wNm 8) 0 = true) : zTv (zput M (o + 3) 11 (nI (a 0))) o (wup1 t 15 (a 0)) := by
  obtain ⟨⟨g0, g1, g2, g3⟩, -, -, -, -, -, -, hz⟩ := hp
  have hw' : (wbd 8 0 (a 0) && true) = true := hw
  simp only [Bool.and_eq_true] at hw'
  have b0 : 1 ≤ a 0 ∧ a 0 ≤ 99 := wbd_iff.mp hw'.1
  have c0 : (wup1 t 15 (a 0)) 0 = t 0 := by rw [wup1_o (by omega)]
  have c1 : (wup1 t 15 (a 0)) 1 = t 1 := by rw [wup1_o (by omega)]
  have c2 : (wup1 t 15 (a 0)) 2 = t 2 := by rw [wup1_o (by omega)]
  have c3 : (wup1 t 15 (a 0)) 3 = t 3 := by rw [wup1_o (by omega)]
  have x0 : wix 15 := by unfold wix; omega
  have r0 : cr o 15 = o + 3 := rfl
  have l0 : cl 15 = 11 := rfl
  have eP : (zput M (cr o 15) (cl 15) (nI (a 0))) = (zput M (o + 3) 11 (nI (a 0))) := by rw [r0, l0]
  rw [← eP]
  refine ⟨fun j hj => ?_, ?_⟩
  · have xj : wix j := wlv_ix hj
    have hl : j ≠ 15 → wlv t j := by
      intro q0
      unfold wlv at hj ⊢
      rw [c0, c1, c2, c3] at hj
      rcases hj with h | h | h | h | h | h | h | h | h | h
      · exact Or.inl h
      · exact Or.inr (Or.inl (by omega))
      · exact Or.inr (Or.inr (Or.inl (by omega)))
      · exact Or.inr (Or.inr (Or.inr (Or.inl (by omega))))
      · exact Or.inr (Or.inr (Or.inr (Or.inr (Or.inl (by omega)))))
      · exact Or.inr (Or.inr (Or.inr (Or.inr (Or.inr (Or.inl h)))))
      · exact Or.inr (Or.inr (Or.inr (Or.inr (Or.inr (Or.inr (Or.inl (by omega)))))))
      · exact Or.inr (Or.inr (Or.inr (Or.inr (Or.inr (Or.inr (Or.inr (Or.inl (by omega))))))))
      · exact Or.inr (Or.inr (Or.inr (Or.inr (Or.inr (Or.inr (Or.inr (Or.inr (Or.inl (by omega)))))))))
      · exact Or.inr (Or.inr (Or.inr (Or.inr (Or.inr (Or.inr (Or.inr (Or.inr (Or.inr ((by omega))))))))))
    rw [zput_cell x0 xj]
    simp only [wup1]
    by_cases y0 : j = 15
    · (repeat' split) <;> first | (exfalso; omega) | rfl
    (repeat' split) <;> first | (exfalso; omega) | exact hv.1 j (hl y0)
  · rw [zput_14 x0, hv.2, c2]
    rw [zbits_congr (f := fun q => t (79 + q)) (g := fun q => (wup1 t 15 (a 0)) (79 + q)) (fun q hq => by rw [wup1_o (by omega)])]
theorem wv_9 {M : zM} {o : Nat} {t a : Nat → Nat} (hv : zTv M o t) (hp : zTp t) (hw : wall 9 a (wNm 9) 0 = true) (hg : t 2 < 7) : zTv (zput (zput M (o + 7) (t 2) (nI (a 0))) (o) 9 (nI (t 2 + 1))) o (wup1 (wup1 t 2 (t 2 + 1)) (72 + t 2) (a 0)) := by
  obtain ⟨⟨g0, g1, g2, g3⟩, -, -, -, -, -, -, hz⟩ := hp
  have hw' : (wbd 9 0 (a 0) && true) = true := hw
  simp only [Bool.and_eq_true] at hw'
  have b0 : 0 ≤ a 0 ∧ a 0 ≤ 60 := wbd_iff.mp hw'.1
  have c0 : (wup1 (wup1 t 2 (t 2 + 1)) (72 + t 2) (a 0)) 0 = t 0 := by rw [wup1_o (by omega), wup1_o (by omega)]
  have c1 : (wup1 (wup1 t 2 (t 2 + 1)) (72 + t 2) (a 0)) 1 = t 1 := by rw [wup1_o (by omega), wup1_o (by omega)]
  have c2 : (wup1 (wup1 t 2 (t 2 + 1)) (72 + t 2) (a 0)) 2 = t 2 + 1 := by rw [wup1_o (by omega), wup1_at]
  have c3 : (wup1 (wup1 t 2 (t 2 + 1)) (72 + t 2) (a 0)) 3 = t 3 := by rw [wup1_o (by omega), wup1_o (by omega)]
  have x0 : wix (72 + t 2) := by unfold wix; omega
  have r0 : cr o (72 + t 2) = o + 7 := by unfold cr; simp only [show ¬ 72 + t 2 < 4 by omega, show ¬ 72 + t 2 < 16 by omega, show ¬ 72 + t 2 < 28 by omega, show ¬ 72 + t 2 < 40 by omega, show ¬ 72 + t 2 < 44 by omega, show ¬ 72 + t 2 < 48 by omega, show ¬ 72 + t 2 < 72 by omega, show 72 + t 2 < 86 by omega, if_true, if_false]
  have l0 : cl (72 + t 2) = (t 2) := by unfold cl; simp only [show ¬ 72 + t 2 = 0 by omega, show ¬ 72 + t 2 = 1 by omega, show ¬ 72 + t 2 = 2 by omega, show ¬ 72 + t 2 = 3 by omega, show ¬ 72 + t 2 < 16 by omega, show ¬ 72 + t 2 < 28 by omega, show ¬ 72 + t 2 < 40 by omega, show ¬ 72 + t 2 < 44 by omega, show ¬ 72 + t 2 < 48 by omega, show ¬ 72 + t 2 < 72 by omega, show 72 + t 2 < 86 by omega, if_true, if_false]; omega
  have x1 : wix 2 := by unfold wix; omega
  have r1 : cr o 2 = o := rfl
  have l1 : cl 2 = 9 := rfl
  have eP : (zput (zput M (cr o (72 + t 2)) (cl (72 + t 2)) (nI (a 0))) (cr o 2) (cl 2) (nI (t 2 + 1))) = (zput (zput M (o + 7) (t 2) (nI (a 0))) (o) 9 (nI (t 2 + 1))) := by rw [r0, l0, r1, l1]
  rw [← eP]
  refine ⟨fun j hj => ?_, ?_⟩
  · have xj : wix j := wlv_ix hj
    have hl : j ≠ (72 + t 2) → j ≠ 2 → wlv t j := by
      intro q0 q1
      unfold wlv at hj ⊢
      rw [c0, c1, c2, c3] at hj
      rcases hj with h | h | h | h | h | h | h | h | h | h
      · exact Or.inl h
      · exact Or.inr (Or.inl (by omega))
      · exact Or.inr (Or.inr (Or.inl (by omega)))
      · exact Or.inr (Or.inr (Or.inr (Or.inl (by omega))))
      · exact Or.inr (Or.inr (Or.inr (Or.inr (Or.inl (by omega)))))
      · exact Or.inr (Or.inr (Or.inr (Or.inr (Or.inr (Or.inl h)))))
      · exact Or.inr (Or.inr (Or.inr (Or.inr (Or.inr (Or.inr (Or.inl (by omega)))))))
      · exact Or.inr (Or.inr (Or.inr (Or.inr (Or.inr (Or.inr (Or.inr (Or.inl (by omega))))))))
      · exact Or.inr (Or.inr (Or.inr (Or.inr (Or.inr (Or.inr (Or.inr (Or.inr (Or.inl (by omega)))))))))
      · exact Or.inr (Or.inr (Or.inr (Or.inr (Or.inr (Or.inr (Or.inr (Or.inr (Or.inr ((by omega))))))))))
    rw [zput_cell x1 xj, zput_cell x0 xj]
    simp only [wup1]
    by_cases y0 : j = (72 + t 2)
    · (repeat' split) <;> first | (exfalso; omega) | rfl
    by_cases y1 : j = 2
    · (repeat' split) <;> first | (exfalso; omega) | rfl
    (repeat' split) <;> first | (exfalso; omega) | exact hv.1 j (hl y0 y1)
  · rw [zput_14 x1, zput_14 x0, hv.2, c2]
    have e : ∀ q, q ≤ t 2 → (wup1 (wup1 t 2 (t 2 + 1)) (72 + t 2) (a 0)) (79 + q) = t (79 + q) := fun q hq => by rw [wup1_o (by omega), wup1_o (by omega)]
    show _ = nI (zbits (fun q => (wup1 (wup1 t 2 (t 2 + 1)) (72 + t 2) (a 0)) (79 + q)) (t 2) + (wup1 (wup1 t 2 (t 2 + 1)) (72 + t 2) (a 0)) (79 + t 2) * 2 ^ t 2)
    rw [e (t 2) (by omega), hz (t 2) (by omega) (by omega), Nat.zero_mul, Nat.add_zero, zbits_congr (g := fun q => t (79 + q)) (fun q hq => e q (by omega))]
theorem wv_10 {M : zM} {o : Nat} {t a : Nat → Nat} (hv : zTv M o t) (hp : zTp t) (hw : wall 10 a (wNm 10) 0 = true) (hg : t 3 < 10 ∧ a 0 < t 2 ∧ a 1 < t 2 ∧ a 0 ≠ a 1) : zTv (zput (zput (zput (zput M (o + 8) (t 3) (nI (a 0))) (o + 9) (t 3) (nI (a 1))) (o + 10) (t 3) (nI (a 2))) (o) 13 (nI (t 3 + 1))) o (wup1 (wup1 (wup1 (wup1 t 3 (t 3 + 1)) (86 + t 3) (a 0)) (96 + t 3) (a 1)) (106 + t 3) (a 2)) := by
  obtain ⟨⟨g0, g1, g2, g3⟩, -, -, -, -, -, -, hz⟩ := hp
  have hw' : (wbd 10 0 (a 0) && (wbd 10 1 (a 1) && (wbd 10 2 (a 2) && true))) = true := hw
  simp only [Bool.and_eq_true] at hw'
  have b0 : 0 ≤ a 0 ∧ a 0 ≤ 6 := wbd_iff.mp hw'.1
  have b1 : 0 ≤ a 1 ∧ a 1 ≤ 6 := wbd_iff.mp hw'.2.1
  have b2 : 1 ≤ a 2 ∧ a 2 ≤ 60 := wbd_iff.mp hw'.2.2.1
  have c0 : (wup1 (wup1 (wup1 (wup1 t 3 (t 3 + 1)) (86 + t 3) (a 0)) (96 + t 3) (a 1)) (106 + t 3) (a 2)) 0 = t 0 := by rw [wup1_o (by omega), wup1_o (by omega), wup1_o (by omega), wup1_o (by omega)]
  have c1 : (wup1 (wup1 (wup1 (wup1 t 3 (t 3 + 1)) (86 + t 3) (a 0)) (96 + t 3) (a 1)) (106 + t 3) (a 2)) 1 = t 1 := by rw [wup1_o (by omega), wup1_o (by omega), wup1_o (by omega), wup1_o (by omega)]
  have c2 : (wup1 (wup1 (wup1 (wup1 t 3 (t 3 + 1)) (86 + t 3) (a 0)) (96 + t 3) (a 1)) (106 + t 3) (a 2)) 2 = t 2 := by rw [wup1_o (by omega), wup1_o (by omega), wup1_o (by omega), wup1_o (by omega)]
  have c3 : (wup1 (wup1 (wup1 (wup1 t 3 (t 3 + 1)) (86 + t 3) (a 0)) (96 + t 3) (a 1)) (106 + t 3) (a 2)) 3 = t 3 + 1 := by rw [wup1_o (by omega), wup1_o (by omega), wup1_o (by omega), wup1_at]
  have x0 : wix (86 + t 3) := by unfold wix; omega
  have r0 : cr o (86 + t 3) = o + 8 := by unfold cr; simp only [show ¬ 86 + t 3 < 4 by omega, show ¬ 86 + t 3 < 16 by omega, show ¬ 86 + t 3 < 28 by omega, show ¬ 86 + t 3 < 40 by omega, show ¬ 86 + t 3 < 44 by omega, show ¬ 86 + t 3 < 48 by omega, show ¬ 86 + t 3 < 72 by omega, show ¬ 86 + t 3 < 86 by omega, show 86 + t 3 < 96 by omega, if_true, if_false]
  have l0 : cl (86 + t 3) = (t 3) := by unfold cl; simp only [show ¬ 86 + t 3 = 0 by omega, show ¬ 86 + t 3 = 1 by omega, show ¬ 86 + t 3 = 2 by omega, show ¬ 86 + t 3 = 3 by omega, show ¬ 86 + t 3 < 16 by omega, show ¬ 86 + t 3 < 28 by omega, show ¬ 86 + t 3 < 40 by omega, show ¬ 86 + t 3 < 44 by omega, show ¬ 86 + t 3 < 48 by omega, show ¬ 86 + t 3 < 72 by omega, show ¬ 86 + t 3 < 86 by omega, show 86 + t 3 < 96 by omega, if_true, if_false]; omega
  have x1 : wix (96 + t 3) := by unfold wix; omega
  have r1 : cr o (96 + t 3) = o + 9 := by unfold cr; simp only [show ¬ 96 + t 3 < 4 by omega, show ¬ 96 + t 3 < 16 by omega, show ¬ 96 + t 3 < 28 by omega, show ¬ 96 + t 3 < 40 by omega, show ¬ 96 + t 3 < 44 by omega, show ¬ 96 + t 3 < 48 by omega, show ¬ 96 + t 3 < 72 by omega, show ¬ 96 + t 3 < 86 by omega, show ¬ 96 + t 3 < 96 by omega, show 96 + t 3 < 106 by omega, if_true, if_false]
  have l1 : cl (96 + t 3) = (t 3) := by unfold cl; simp only [show ¬ 96 + t 3 = 0 by omega, show ¬ 96 + t 3 = 1 by omega, show ¬ 96 + t 3 = 2 by omega, show ¬ 96 + t 3 = 3 by omega, show ¬ 96 + t 3 < 16 by omega, show ¬ 96 + t 3 < 28 by omega, show ¬ 96 + t 3 < 40 by omega, show ¬ 96 + t 3 < 44 by omega, show ¬ 96 + t 3 < 48 by omega, show ¬ 96 + t 3 < 72 by omega, show ¬ 96 + t 3 < 86 by omega, show ¬ 96 + t 3 < 96 by omega, show 96 + t 3 < 106 by omega, if_true, if_false]; omega
  have x2 : wix (106 + t 3) := by unfold wix; omega
  have r2 : cr o (106 + t 3) = o + 10 := by unfold cr; simp only [show ¬ 106 + t 3 < 4 by omega, show ¬ 106 + t 3 < 16 by omega, show ¬ 106 + t 3 < 28 by omega, show ¬ 106 + t 3 < 40 by omega, show ¬ 106 + t 3 < 44 by omega, show ¬ 106 + t 3 < 48 by omega, show ¬ 106 + t 3 < 72 by omega, show ¬ 106 + t 3 < 86 by omega, show ¬ 106 + t 3 < 96 by omega, show ¬ 106 + t 3 < 106 by omega, if_false]
  have l2 : cl (106 + t 3) = (t 3) := by unfold cl; simp only [show ¬ 106 + t 3 = 0 by omega, show ¬ 106 + t 3 = 1 by omega, show ¬ 106 + t 3 = 2 by omega, show ¬ 106 + t 3 = 3 by omega, show ¬ 106 + t 3 < 16 by omega, show ¬ 106 + t 3 < 28 by omega, show ¬ 106 + t 3 < 40 by omega, show ¬ 106 + t 3 < 44 by omega, show ¬ 106 + t 3 < 48 by omega, show ¬ 106 + t 3 < 72 by omega, show ¬ 106 + t 3 < 86 by omega, show ¬ 106 + t 3 < 96 by omega, show ¬ 106 + t 3 < 106 by omega, if_false]; omega
  have x3 : wix 3 := by unfold wix; omega
  have r3 : cr o 3 = o := rfl
  have l3 : cl 3 = 13 := rfl
  have eP : (zput (zput (zput (zput M (cr o (86 + t 3)) (cl (86 + t 3)) (nI (a 0))) (cr o (96 + t 3)) (cl (96 + t 3)) (nI (a 1))) (cr o (106 + t 3)) (cl (106 + t 3)) (nI (a 2))) (cr o 3) (cl 3) (nI (t 3 + 1))) = (zput (zput (zput (zput M (o + 8) (t 3) (nI (a 0))) (o + 9) (t 3) (nI (a 1))) (o + 10) (t 3) (nI (a 2))) (o) 13 (nI (t 3 + 1))) := by rw [r0, l0, r1, l1, r2, l2, r3, l3]
  rw [← eP]
  refine ⟨fun j hj => ?_, ?_⟩
  · have xj : wix j := wlv_ix hj
    have hl : j ≠ (86 + t 3) → j ≠ (96 + t 3) → j ≠ (106 + t 3) → j ≠ 3 → wlv t j := by
      intro q0 q1 q2 q3
      unfold wlv at hj ⊢
      rw [c0, c1, c2, c3] at hj
      rcases hj with h | h | h | h | h | h | h | h | h | h
      · exact Or.inl h
      · exact Or.inr (Or.inl (by omega))
      · exact Or.inr (Or.inr (Or.inl (by omega)))
      · exact Or.inr (Or.inr (Or.inr (Or.inl (by omega))))
      · exact Or.inr (Or.inr (Or.inr (Or.inr (Or.inl (by omega)))))
      · exact Or.inr (Or.inr (Or.inr (Or.inr (Or.inr (Or.inl h)))))
      · exact Or.inr (Or.inr (Or.inr (Or.inr (Or.inr (Or.inr (Or.inl (by omega)))))))
      · exact Or.inr (Or.inr (Or.inr (Or.inr (Or.inr (Or.inr (Or.inr (Or.inl (by omega))))))))
      · exact Or.inr (Or.inr (Or.inr (Or.inr (Or.inr (Or.inr (Or.inr (Or.inr (Or.inl (by omega)))))))))
      · exact Or.inr (Or.inr (Or.inr (Or.inr (Or.inr (Or.inr (Or.inr (Or.inr (Or.inr ((by omega))))))))))
    rw [zput_cell x3 xj, zput_cell x2 xj, zput_cell x1 xj, zput_cell x0 xj]
    simp only [wup1]
    by_cases y0 : j = (86 + t 3)
    · (repeat' split) <;> first | (exfalso; omega) | rfl
    by_cases y1 : j = (96 + t 3)
    · (repeat' split) <;> first | (exfalso; omega) | rfl
    by_cases y2 : j = (106 + t 3)
    · (repeat' split) <;> first | (exfalso; omega) | rfl
    by_cases y3 : j = 3
    · (repeat' split) <;> first | (exfalso; omega) | rfl
    (repeat' split) <;> first | (exfalso; omega) | exact hv.1 j (hl y0 y1 y2 y3)
  · rw [zput_14 x3, zput_14 x2, zput_14 x1, zput_14 x0, hv.2, c2]
    rw [zbits_congr (f := fun q => t (79 + q)) (g := fun q => (wup1 (wup1 (wup1 (wup1 t 3 (t 3 + 1)) (86 + t 3) (a 0)) (96 + t 3) (a 1)) (106 + t 3) (a 2)) (79 + q)) (fun q hq => by rw [wup1_o (by omega), wup1_o (by omega), wup1_o (by omega), wup1_o (by omega)])]
theorem wv_11 {M : zM} {o : Nat} {t a : Nat → Nat} (hv : zTv M o t) (hp : zTp t) (hg : a 0 < t 2) : zTv (zput M o 14 (M o 14 ||| (1 <<< (nI (a 0) &&& 31)))) o (wup1 t (79 + a 0) 1) := by
  obtain ⟨⟨g0, g1, g2, g3⟩, -, -, -, -, hq, -, hz⟩ := hp
  have c0 : wup1 t (79 + a 0) 1 0 = t 0 := by rw [wup1_o (by omega)]
  have c1 : wup1 t (79 + a 0) 1 1 = t 1 := by rw [wup1_o (by omega)]
  have c2 : wup1 t (79 + a 0) 1 2 = t 2 := by rw [wup1_o (by omega)]
  have c3 : wup1 t (79 + a 0) 1 3 = t 3 := by rw [wup1_o (by omega)]
  refine ⟨fun j hj => ?_, ?_⟩
  · have xj : j < 116 ∧ (j < 79 ∨ 86 ≤ j) := by unfold wlv at hj; omega
    have hl : wlv t j := by unfold wlv at hj ⊢; rw [c0, c1, c2, c3] at hj; omega
    have h14 := cell_14 ⟨j, xj.1⟩
    dsimp only at h14
    rw [zput_o, wup1_o (by omega)]
    · exact hv.1 j hl
    · rw [cr_o]
      by_cases h : cr 0 j = 0
      · exact Or.inr fun q => h14 ⟨h, q⟩
      · exact Or.inl (by omega)
  · have hlt := zbits_lt (f := fun q => t (79 + q)) (n := t 2) (fun q hq' => (hq q hq').2)
    have h128 : 2 ^ t 2 ≤ 2 ^ 7 := Nat.pow_le_pow_right (by omega) g2
    have hget := zbits_get (f := fun q => t (79 + q)) (n := t 2) (fun q hq' => (hq q hq').2) (a 0) hg
    have hs := zset_all ⟨zbits (fun q => t (79 + q)) (t 2), by omega⟩ ⟨a 0, by omega⟩
    have hu := (zbits_upd (f := fun q => t (79 + q)) (q := a 0) (b := 1) (n := t 2)).2 hg
    have h1 := (hq (a 0) hg).2
    dsimp only at hs hget hu
    rw [zput_at, hv.2, hs, hget, c2]
    have e : zbits (fun q => wup1 t (79 + a 0) 1 (79 + q)) (t 2) = zbits (fun k => if k = a 0 then 1 else t (79 + k)) (t 2) := zbits_congr fun q hq' => by
      unfold wup1
      by_cases e : q = a 0
      · rw [if_pos (by omega), if_pos e]
      · rw [if_neg (by omega), if_neg e]
    rw [e]
    congr 1
    rcases Nat.le_one_iff_eq_zero_or_eq_one.mp h1 with e | e
    · rw [e] at hu ⊢; omega
    · rw [e] at hu ⊢; omega
