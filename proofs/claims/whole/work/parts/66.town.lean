theorem wTk_p0 {t a : Nat → Nat} (h : zTp t) (hw : wall 0 a (wNm 0) 0 = true) (hg : t 0 < 12) : zTp (wup1 (wup1 (wup1 t 0 (t 0 + 1)) (16 + t 0) (a 0)) (28 + t 0) (a 1)) := by
  obtain ⟨⟨g0, g1, g2, g3⟩, hv, hs, hh, hn, hq, he, hz⟩ := h
  have hw' : (wbd 0 0 (a 0) && (wbd 0 1 (a 1) && true)) = true := hw
  simp only [Bool.and_eq_true] at hw'
  have b0 : 1 ≤ a 0 ∧ a 0 ≤ 30 := wbd_iff.mp hw'.1
  have b1 : 10 ≤ a 1 ∧ a 1 ≤ 60 := wbd_iff.mp hw'.2.1
  have c0 : (wup1 (wup1 (wup1 t 0 (t 0 + 1)) (16 + t 0) (a 0)) (28 + t 0) (a 1)) 0 = t 0 + 1 := by rw [wup1_o (by omega), wup1_o (by omega), wup1_at]
  have c1 : (wup1 (wup1 (wup1 t 0 (t 0 + 1)) (16 + t 0) (a 0)) (28 + t 0) (a 1)) 1 = t 1 := by (simp only [wup1]; (repeat' split) <;> omega)
  have c2 : (wup1 (wup1 (wup1 t 0 (t 0 + 1)) (16 + t 0) (a 0)) (28 + t 0) (a 1)) 2 = t 2 := by (simp only [wup1]; (repeat' split) <;> omega)
  have c3 : (wup1 (wup1 (wup1 t 0 (t 0 + 1)) (16 + t 0) (a 0)) (28 + t 0) (a 1)) 3 = t 3 := by (simp only [wup1]; (repeat' split) <;> omega)
  refine ⟨⟨by rw [c0]; omega, by rw [c1]; omega, by rw [c2]; omega, by rw [c3]; omega⟩, ?_, ?_, ?_, ?_, ?_, ?_, ?_⟩
  · refine ⟨?_, ?_, ?_, ?_, ?_, ?_, ?_, ?_, ?_, ?_, ?_, ?_, ?_, ?_, ?_, ?_, ?_, ?_⟩ <;> (simp only [wup1]; (repeat' split) <;> omega)
  · intro s q
    rw [c0] at q
    have := hs s
    refine ⟨?_, ?_, ?_, ?_⟩ <;> (simp only [wup1]; (repeat' split) <;> omega)
  · intro s q
    rw [c1] at q
    have := hh s
    refine ⟨?_, ?_, ?_⟩ <;> (simp only [wup1]; (repeat' split) <;> omega)
  · intro s q
    have := hn s q
    simp only [wup1]; (repeat' split) <;> omega
  · intro s q
    rw [c2] at q
    have := hq s
    have := hz s
    refine ⟨?_, ?_⟩ <;> (simp only [wup1]; (repeat' split) <;> omega)
  · intro s q
    rw [c3] at q
    have := he s
    rw [c2]
    refine ⟨?_, ?_, ?_, ?_, ?_⟩ <;> (simp only [wup1]; (repeat' split) <;> omega)
  · intro s q1 q2
    rw [c2] at q1
    have := hz s
    simp only [wup1]; (repeat' split) <;> omega
theorem wTk_p1 {t a : Nat → Nat} (h : zTp t) (hw : wall 1 a (wNm 1) 0 = true) : zTp (wup1 (wup1 (wup1 t 4 (a 0)) 5 (a 1)) 6 (a 2)) := by
  obtain ⟨⟨g0, g1, g2, g3⟩, hv, hs, hh, hn, hq, he, hz⟩ := h
  have hw' : (wbd 1 0 (a 0) && (wbd 1 1 (a 1) && (wbd 1 2 (a 2) && true))) = true := hw
  simp only [Bool.and_eq_true] at hw'
  have b0 : 3 ≤ a 0 ∧ a 0 ≤ 40 := wbd_iff.mp hw'.1
  have b1 : 1 ≤ a 1 ∧ a 1 ≤ 60 := wbd_iff.mp hw'.2.1
  have b2 : 1 ≤ a 2 ∧ a 2 ≤ 99 := wbd_iff.mp hw'.2.2.1
  have c0 : (wup1 (wup1 (wup1 t 4 (a 0)) 5 (a 1)) 6 (a 2)) 0 = t 0 := by (simp only [wup1]; (repeat' split) <;> omega)
  have c1 : (wup1 (wup1 (wup1 t 4 (a 0)) 5 (a 1)) 6 (a 2)) 1 = t 1 := by (simp only [wup1]; (repeat' split) <;> omega)
  have c2 : (wup1 (wup1 (wup1 t 4 (a 0)) 5 (a 1)) 6 (a 2)) 2 = t 2 := by (simp only [wup1]; (repeat' split) <;> omega)
  have c3 : (wup1 (wup1 (wup1 t 4 (a 0)) 5 (a 1)) 6 (a 2)) 3 = t 3 := by (simp only [wup1]; (repeat' split) <;> omega)
  refine ⟨⟨by rw [c0]; omega, by rw [c1]; omega, by rw [c2]; omega, by rw [c3]; omega⟩, ?_, ?_, ?_, ?_, ?_, ?_, ?_⟩
  · refine ⟨?_, ?_, ?_, ?_, ?_, ?_, ?_, ?_, ?_, ?_, ?_, ?_, ?_, ?_, ?_, ?_, ?_, ?_⟩ <;> (simp only [wup1]; (repeat' split) <;> omega)
  · intro s q
    rw [c0] at q
    have := hs s
    refine ⟨?_, ?_, ?_, ?_⟩ <;> (simp only [wup1]; (repeat' split) <;> omega)
  · intro s q
    rw [c1] at q
    have := hh s
    refine ⟨?_, ?_, ?_⟩ <;> (simp only [wup1]; (repeat' split) <;> omega)
  · intro s q
    have := hn s q
    simp only [wup1]; (repeat' split) <;> omega
  · intro s q
    rw [c2] at q
    have := hq s
    have := hz s
    refine ⟨?_, ?_⟩ <;> (simp only [wup1]; (repeat' split) <;> omega)
  · intro s q
    rw [c3] at q
    have := he s
    rw [c2]
    refine ⟨?_, ?_, ?_, ?_, ?_⟩ <;> (simp only [wup1]; (repeat' split) <;> omega)
  · intro s q1 q2
    rw [c2] at q1
    have := hz s
    simp only [wup1]; (repeat' split) <;> omega
theorem wTk_p2 {t a : Nat → Nat} (h : zTp t) (hw : wall 2 a (wNm 2) 0 = true) : zTp (wup1 t 7 (a 0)) := by
  obtain ⟨⟨g0, g1, g2, g3⟩, hv, hs, hh, hn, hq, he, hz⟩ := h
  have hw' : (wbd 2 0 (a 0) && true) = true := hw
  simp only [Bool.and_eq_true] at hw'
  have b0 : 0 ≤ a 0 ∧ a 0 ≤ 40 := wbd_iff.mp hw'.1
  have c0 : (wup1 t 7 (a 0)) 0 = t 0 := by (simp only [wup1]; (repeat' split) <;> omega)
  have c1 : (wup1 t 7 (a 0)) 1 = t 1 := by (simp only [wup1]; (repeat' split) <;> omega)
  have c2 : (wup1 t 7 (a 0)) 2 = t 2 := by (simp only [wup1]; (repeat' split) <;> omega)
  have c3 : (wup1 t 7 (a 0)) 3 = t 3 := by (simp only [wup1]; (repeat' split) <;> omega)
  refine ⟨⟨by rw [c0]; omega, by rw [c1]; omega, by rw [c2]; omega, by rw [c3]; omega⟩, ?_, ?_, ?_, ?_, ?_, ?_, ?_⟩
  · refine ⟨?_, ?_, ?_, ?_, ?_, ?_, ?_, ?_, ?_, ?_, ?_, ?_, ?_, ?_, ?_, ?_, ?_, ?_⟩ <;> (simp only [wup1]; (repeat' split) <;> omega)
  · intro s q
    rw [c0] at q
    have := hs s
    refine ⟨?_, ?_, ?_, ?_⟩ <;> (simp only [wup1]; (repeat' split) <;> omega)
  · intro s q
    rw [c1] at q
    have := hh s
    refine ⟨?_, ?_, ?_⟩ <;> (simp only [wup1]; (repeat' split) <;> omega)
  · intro s q
    have := hn s q
    simp only [wup1]; (repeat' split) <;> omega
  · intro s q
    rw [c2] at q
    have := hq s
    have := hz s
    refine ⟨?_, ?_⟩ <;> (simp only [wup1]; (repeat' split) <;> omega)
  · intro s q
    rw [c3] at q
    have := he s
    rw [c2]
    refine ⟨?_, ?_, ?_, ?_, ?_⟩ <;> (simp only [wup1]; (repeat' split) <;> omega)
  · intro s q1 q2
    rw [c2] at q1
    have := hz s
    simp only [wup1]; (repeat' split) <;> omega
theorem wTk_p3 {t a : Nat → Nat} (h : zTp t) (hw : wall 3 a (wNm 3) 0 = true) : zTp (wup1 (wup1 (wup1 t 8 (a 0)) 9 (a 1)) 10 (a 2)) := by
  obtain ⟨⟨g0, g1, g2, g3⟩, hv, hs, hh, hn, hq, he, hz⟩ := h
  have hw' : (wbd 3 0 (a 0) && (wbd 3 1 (a 1) && (wbd 3 2 (a 2) && true))) = true := hw
  simp only [Bool.and_eq_true] at hw'
  have b0 : 0 ≤ a 0 ∧ a 0 ≤ 40 := wbd_iff.mp hw'.1
  have b1 : 0 ≤ a 1 ∧ a 1 ≤ 99 := wbd_iff.mp hw'.2.1
  have b2 : 0 ≤ a 2 ∧ a 2 ≤ 99 := wbd_iff.mp hw'.2.2.1
  have c0 : (wup1 (wup1 (wup1 t 8 (a 0)) 9 (a 1)) 10 (a 2)) 0 = t 0 := by (simp only [wup1]; (repeat' split) <;> omega)
  have c1 : (wup1 (wup1 (wup1 t 8 (a 0)) 9 (a 1)) 10 (a 2)) 1 = t 1 := by (simp only [wup1]; (repeat' split) <;> omega)
  have c2 : (wup1 (wup1 (wup1 t 8 (a 0)) 9 (a 1)) 10 (a 2)) 2 = t 2 := by (simp only [wup1]; (repeat' split) <;> omega)
  have c3 : (wup1 (wup1 (wup1 t 8 (a 0)) 9 (a 1)) 10 (a 2)) 3 = t 3 := by (simp only [wup1]; (repeat' split) <;> omega)
  refine ⟨⟨by rw [c0]; omega, by rw [c1]; omega, by rw [c2]; omega, by rw [c3]; omega⟩, ?_, ?_, ?_, ?_, ?_, ?_, ?_⟩
  · refine ⟨?_, ?_, ?_, ?_, ?_, ?_, ?_, ?_, ?_, ?_, ?_, ?_, ?_, ?_, ?_, ?_, ?_, ?_⟩ <;> (simp only [wup1]; (repeat' split) <;> omega)
  · intro s q
    rw [c0] at q
    have := hs s
    refine ⟨?_, ?_, ?_, ?_⟩ <;> (simp only [wup1]; (repeat' split) <;> omega)
  · intro s q
    rw [c1] at q
    have := hh s
    refine ⟨?_, ?_, ?_⟩ <;> (simp only [wup1]; (repeat' split) <;> omega)
  · intro s q
    have := hn s q
    simp only [wup1]; (repeat' split) <;> omega
  · intro s q
    rw [c2] at q
    have := hq s
    have := hz s
    refine ⟨?_, ?_⟩ <;> (simp only [wup1]; (repeat' split) <;> omega)
  · intro s q
    rw [c3] at q
    have := he s
    rw [c2]
    refine ⟨?_, ?_, ?_, ?_, ?_⟩ <;> (simp only [wup1]; (repeat' split) <;> omega)
  · intro s q1 q2
    rw [c2] at q1
    have := hz s
    simp only [wup1]; (repeat' split) <;> omega
theorem wTk_p4 {t a : Nat → Nat} (h : zTp t) (hw : wall 4 a (wNm 4) 0 = true) : zTp (wup1 (wup1 t 11 (a 0)) 12 (a 1)) := by
  obtain ⟨⟨g0, g1, g2, g3⟩, hv, hs, hh, hn, hq, he, hz⟩ := h
  have hw' : (wbd 4 0 (a 0) && (wbd 4 1 (a 1) && true)) = true := hw
  simp only [Bool.and_eq_true] at hw'
  have b0 : 1 ≤ a 0 ∧ a 0 ≤ 99 := wbd_iff.mp hw'.1
  have b1 : 1 ≤ a 1 ∧ a 1 ≤ 99 := wbd_iff.mp hw'.2.1
  have c0 : (wup1 (wup1 t 11 (a 0)) 12 (a 1)) 0 = t 0 := by (simp only [wup1]; (repeat' split) <;> omega)
  have c1 : (wup1 (wup1 t 11 (a 0)) 12 (a 1)) 1 = t 1 := by (simp only [wup1]; (repeat' split) <;> omega)
  have c2 : (wup1 (wup1 t 11 (a 0)) 12 (a 1)) 2 = t 2 := by (simp only [wup1]; (repeat' split) <;> omega)
  have c3 : (wup1 (wup1 t 11 (a 0)) 12 (a 1)) 3 = t 3 := by (simp only [wup1]; (repeat' split) <;> omega)
  refine ⟨⟨by rw [c0]; omega, by rw [c1]; omega, by rw [c2]; omega, by rw [c3]; omega⟩, ?_, ?_, ?_, ?_, ?_, ?_, ?_⟩
  · refine ⟨?_, ?_, ?_, ?_, ?_, ?_, ?_, ?_, ?_, ?_, ?_, ?_, ?_, ?_, ?_, ?_, ?_, ?_⟩ <;> (simp only [wup1]; (repeat' split) <;> omega)
  · intro s q
    rw [c0] at q
    have := hs s
    refine ⟨?_, ?_, ?_, ?_⟩ <;> (simp only [wup1]; (repeat' split) <;> omega)
  · intro s q
    rw [c1] at q
    have := hh s
    refine ⟨?_, ?_, ?_⟩ <;> (simp only [wup1]; (repeat' split) <;> omega)
  · intro s q
    have := hn s q
    simp only [wup1]; (repeat' split) <;> omega
  · intro s q
    rw [c2] at q
    have := hq s
    have := hz s
    refine ⟨?_, ?_⟩ <;> (simp only [wup1]; (repeat' split) <;> omega)
  · intro s q
    rw [c3] at q
    have := he s
    rw [c2]
    refine ⟨?_, ?_, ?_, ?_, ?_⟩ <;> (simp only [wup1]; (repeat' split) <;> omega)
  · intro s q1 q2
    rw [c2] at q1
    have := hz s
    simp only [wup1]; (repeat' split) <;> omega
theorem wTk_p5 {t a : Nat → Nat} (h : zTp t) (hw : wall 5 a (wNm 5) 0 = true) (hg : t 1 < 4) : zTp (wup1 (wup1 (wup1 t 1 (t 1 + 1)) (40 + t 1) (a 0)) (44 + t 1) (a 1)) := by
  obtain ⟨⟨g0, g1, g2, g3⟩, hv, hs, hh, hn, hq, he, hz⟩ := h
  have hw' : (wbd 5 0 (a 0) && (wbd 5 1 (a 1) && true)) = true := hw
  simp only [Bool.and_eq_true] at hw'
  have b0 : 1 ≤ a 0 ∧ a 0 ≤ 99 := wbd_iff.mp hw'.1
  have b1 : 0 ≤ a 1 ∧ a 1 ≤ 10 := wbd_iff.mp hw'.2.1
  have c0 : (wup1 (wup1 (wup1 t 1 (t 1 + 1)) (40 + t 1) (a 0)) (44 + t 1) (a 1)) 0 = t 0 := by (simp only [wup1]; (repeat' split) <;> omega)
  have c1 : (wup1 (wup1 (wup1 t 1 (t 1 + 1)) (40 + t 1) (a 0)) (44 + t 1) (a 1)) 1 = t 1 + 1 := by rw [wup1_o (by omega), wup1_o (by omega), wup1_at]
  have c2 : (wup1 (wup1 (wup1 t 1 (t 1 + 1)) (40 + t 1) (a 0)) (44 + t 1) (a 1)) 2 = t 2 := by (simp only [wup1]; (repeat' split) <;> omega)
  have c3 : (wup1 (wup1 (wup1 t 1 (t 1 + 1)) (40 + t 1) (a 0)) (44 + t 1) (a 1)) 3 = t 3 := by (simp only [wup1]; (repeat' split) <;> omega)
  refine ⟨⟨by rw [c0]; omega, by rw [c1]; omega, by rw [c2]; omega, by rw [c3]; omega⟩, ?_, ?_, ?_, ?_, ?_, ?_, ?_⟩
  · refine ⟨?_, ?_, ?_, ?_, ?_, ?_, ?_, ?_, ?_, ?_, ?_, ?_, ?_, ?_, ?_, ?_, ?_, ?_⟩ <;> (simp only [wup1]; (repeat' split) <;> omega)
  · intro s q
    rw [c0] at q
    have := hs s
    refine ⟨?_, ?_, ?_, ?_⟩ <;> (simp only [wup1]; (repeat' split) <;> omega)
  · intro s q
    rw [c1] at q
    have := hh s
    refine ⟨?_, ?_, ?_⟩ <;> (simp only [wup1]; (repeat' split) <;> omega)
  · intro s q
    have := hn s q
    simp only [wup1]; (repeat' split) <;> omega
  · intro s q
    rw [c2] at q
    have := hq s
    have := hz s
    refine ⟨?_, ?_⟩ <;> (simp only [wup1]; (repeat' split) <;> omega)
  · intro s q
    rw [c3] at q
    have := he s
    rw [c2]
    refine ⟨?_, ?_, ?_, ?_, ?_⟩ <;> (simp only [wup1]; (repeat' split) <;> omega)
  · intro s q1 q2
    rw [c2] at q1
    have := hz s
    simp only [wup1]; (repeat' split) <;> omega
theorem wTk_p6 {t a : Nat → Nat} (h : zTp t) (hw : wall 6 a (wNm 6) 0 = true) : zTp (wup1 t (48 + a 0) (a 1)) := by
  obtain ⟨⟨g0, g1, g2, g3⟩, hv, hs, hh, hn, hq, he, hz⟩ := h
  have hw' : (wbd 6 0 (a 0) && (wbd 6 1 (a 1) && true)) = true := hw
  simp only [Bool.and_eq_true] at hw'
  have b0 : 0 ≤ a 0 ∧ a 0 ≤ 23 := wbd_iff.mp hw'.1
  have b1 : 0 ≤ a 1 ∧ a 1 ≤ 9 := wbd_iff.mp hw'.2.1
  have c0 : (wup1 t (48 + a 0) (a 1)) 0 = t 0 := by (simp only [wup1]; (repeat' split) <;> omega)
  have c1 : (wup1 t (48 + a 0) (a 1)) 1 = t 1 := by (simp only [wup1]; (repeat' split) <;> omega)
  have c2 : (wup1 t (48 + a 0) (a 1)) 2 = t 2 := by (simp only [wup1]; (repeat' split) <;> omega)
  have c3 : (wup1 t (48 + a 0) (a 1)) 3 = t 3 := by (simp only [wup1]; (repeat' split) <;> omega)
  refine ⟨⟨by rw [c0]; omega, by rw [c1]; omega, by rw [c2]; omega, by rw [c3]; omega⟩, ?_, ?_, ?_, ?_, ?_, ?_, ?_⟩
  · refine ⟨?_, ?_, ?_, ?_, ?_, ?_, ?_, ?_, ?_, ?_, ?_, ?_, ?_, ?_, ?_, ?_, ?_, ?_⟩ <;> (simp only [wup1]; (repeat' split) <;> omega)
  · intro s q
    rw [c0] at q
    have := hs s
    refine ⟨?_, ?_, ?_, ?_⟩ <;> (simp only [wup1]; (repeat' split) <;> omega)
  · intro s q
    rw [c1] at q
    have := hh s
    refine ⟨?_, ?_, ?_⟩ <;> (simp only [wup1]; (repeat' split) <;> omega)
  · intro s q
    have := hn s q
    simp only [wup1]; (repeat' split) <;> omega
  · intro s q
    rw [c2] at q
    have := hq s
    have := hz s
    refine ⟨?_, ?_⟩ <;> (simp only [wup1]; (repeat' split) <;> omega)
  · intro s q
    rw [c3] at q
    have := he s
    rw [c2]
    refine ⟨?_, ?_, ?_, ?_, ?_⟩ <;> (simp only [wup1]; (repeat' split) <;> omega)
  · intro s q1 q2
    rw [c2] at q1
    have := hz s
    simp only [wup1]; (repeat' split) <;> omega
theorem wTk_p7 {t a : Nat → Nat} (h : zTp t) (hw : wall 7 a (wNm 7) 0 = true) : zTp (wup1 (wup1 t 13 (a 0)) 14 (a 1)) := by
  obtain ⟨⟨g0, g1, g2, g3⟩, hv, hs, hh, hn, hq, he, hz⟩ := h
  have hw' : (wbd 7 0 (a 0) && (wbd 7 1 (a 1) && true)) = true := hw
  simp only [Bool.and_eq_true] at hw'
  have b0 : 0 ≤ a 0 ∧ a 0 ≤ 99 := wbd_iff.mp hw'.1
  have b1 : 0 ≤ a 1 ∧ a 1 ≤ 99 := wbd_iff.mp hw'.2.1
  have c0 : (wup1 (wup1 t 13 (a 0)) 14 (a 1)) 0 = t 0 := by (simp only [wup1]; (repeat' split) <;> omega)
  have c1 : (wup1 (wup1 t 13 (a 0)) 14 (a 1)) 1 = t 1 := by (simp only [wup1]; (repeat' split) <;> omega)
  have c2 : (wup1 (wup1 t 13 (a 0)) 14 (a 1)) 2 = t 2 := by (simp only [wup1]; (repeat' split) <;> omega)
  have c3 : (wup1 (wup1 t 13 (a 0)) 14 (a 1)) 3 = t 3 := by (simp only [wup1]; (repeat' split) <;> omega)
  refine ⟨⟨by rw [c0]; omega, by rw [c1]; omega, by rw [c2]; omega, by rw [c3]; omega⟩, ?_, ?_, ?_, ?_, ?_, ?_, ?_⟩
  · refine ⟨?_, ?_, ?_, ?_, ?_, ?_, ?_, ?_, ?_, ?_, ?_, ?_, ?_, ?_, ?_, ?_, ?_, ?_⟩ <;> (simp only [wup1]; (repeat' split) <;> omega)
  · intro s q
    rw [c0] at q
    have := hs s
    refine ⟨?_, ?_, ?_, ?_⟩ <;> (simp only [wup1]; (repeat' split) <;> omega)
  · intro s q
    rw [c1] at q
    have := hh s
    refine ⟨?_, ?_, ?_⟩ <;> (simp only [wup1]; (repeat' split) <;> omega)
  · intro s q
    have := hn s q
    simp only [wup1]; (repeat' split) <;> omega
  · intro s q
    rw [c2] at q
    have := hq s
    have := hz s
    refine ⟨?_, ?_⟩ <;> (simp only [wup1]; (repeat' split) <;> omega)
  · intro s q
    rw [c3] at q
    have := he s
    rw [c2]
    refine ⟨?_, ?_, ?_, ?_, ?_⟩ <;> (simp only [wup1]; (repeat' split) <;> omega)
  · intro s q1 q2
    rw [c2] at q1
    have := hz s
    simp only [wup1]; (repeat' split) <;> omega
theorem wTk_p8 {t a : Nat → Nat} (h : zTp t) (hw : wall 8 a (wNm 8) 0 = true) : zTp (wup1 t 15 (a 0)) := by
  obtain ⟨⟨g0, g1, g2, g3⟩, hv, hs, hh, hn, hq, he, hz⟩ := h
  have hw' : (wbd 8 0 (a 0) && true) = true := hw
  simp only [Bool.and_eq_true] at hw'
  have b0 : 1 ≤ a 0 ∧ a 0 ≤ 99 := wbd_iff.mp hw'.1
  have c0 : (wup1 t 15 (a 0)) 0 = t 0 := by (simp only [wup1]; (repeat' split) <;> omega)
  have c1 : (wup1 t 15 (a 0)) 1 = t 1 := by (simp only [wup1]; (repeat' split) <;> omega)
  have c2 : (wup1 t 15 (a 0)) 2 = t 2 := by (simp only [wup1]; (repeat' split) <;> omega)
  have c3 : (wup1 t 15 (a 0)) 3 = t 3 := by (simp only [wup1]; (repeat' split) <;> omega)
  refine ⟨⟨by rw [c0]; omega, by rw [c1]; omega, by rw [c2]; omega, by rw [c3]; omega⟩, ?_, ?_, ?_, ?_, ?_, ?_, ?_⟩
  · refine ⟨?_, ?_, ?_, ?_, ?_, ?_, ?_, ?_, ?_, ?_, ?_, ?_, ?_, ?_, ?_, ?_, ?_, ?_⟩ <;> (simp only [wup1]; (repeat' split) <;> omega)
  · intro s q
    rw [c0] at q
    have := hs s
    refine ⟨?_, ?_, ?_, ?_⟩ <;> (simp only [wup1]; (repeat' split) <;> omega)
  · intro s q
    rw [c1] at q
    have := hh s
    refine ⟨?_, ?_, ?_⟩ <;> (simp only [wup1]; (repeat' split) <;> omega)
  · intro s q
    have := hn s q
    simp only [wup1]; (repeat' split) <;> omega
  · intro s q
    rw [c2] at q
    have := hq s
    have := hz s
    refine ⟨?_, ?_⟩ <;> (simp only [wup1]; (repeat' split) <;> omega)
  · intro s q
    rw [c3] at q
    have := he s
    rw [c2]
    refine ⟨?_, ?_, ?_, ?_, ?_⟩ <;> (simp only [wup1]; (repeat' split) <;> omega)
  · intro s q1 q2
    rw [c2] at q1
    have := hz s
    simp only [wup1]; (repeat' split) <;> omega
theorem wTk_p9 {t a : Nat → Nat} (h : zTp t) (hw : wall 9 a (wNm 9) 0 = true) (hg : t 2 < 7) : zTp (wup1 (wup1 t 2 (t 2 + 1)) (72 + t 2) (a 0)) := by
  obtain ⟨⟨g0, g1, g2, g3⟩, hv, hs, hh, hn, hq, he, hz⟩ := h
  have hw' : (wbd 9 0 (a 0) && true) = true := hw
  simp only [Bool.and_eq_true] at hw'
  have b0 : 0 ≤ a 0 ∧ a 0 ≤ 60 := wbd_iff.mp hw'.1
  have c0 : (wup1 (wup1 t 2 (t 2 + 1)) (72 + t 2) (a 0)) 0 = t 0 := by (simp only [wup1]; (repeat' split) <;> omega)
  have c1 : (wup1 (wup1 t 2 (t 2 + 1)) (72 + t 2) (a 0)) 1 = t 1 := by (simp only [wup1]; (repeat' split) <;> omega)
  have c2 : (wup1 (wup1 t 2 (t 2 + 1)) (72 + t 2) (a 0)) 2 = t 2 + 1 := by rw [wup1_o (by omega), wup1_at]
  have c3 : (wup1 (wup1 t 2 (t 2 + 1)) (72 + t 2) (a 0)) 3 = t 3 := by (simp only [wup1]; (repeat' split) <;> omega)
  refine ⟨⟨by rw [c0]; omega, by rw [c1]; omega, by rw [c2]; omega, by rw [c3]; omega⟩, ?_, ?_, ?_, ?_, ?_, ?_, ?_⟩
  · refine ⟨?_, ?_, ?_, ?_, ?_, ?_, ?_, ?_, ?_, ?_, ?_, ?_, ?_, ?_, ?_, ?_, ?_, ?_⟩ <;> (simp only [wup1]; (repeat' split) <;> omega)
  · intro s q
    rw [c0] at q
    have := hs s
    refine ⟨?_, ?_, ?_, ?_⟩ <;> (simp only [wup1]; (repeat' split) <;> omega)
  · intro s q
    rw [c1] at q
    have := hh s
    refine ⟨?_, ?_, ?_⟩ <;> (simp only [wup1]; (repeat' split) <;> omega)
  · intro s q
    have := hn s q
    simp only [wup1]; (repeat' split) <;> omega
  · intro s q
    rw [c2] at q
    have := hq s
    have := hz s
    refine ⟨?_, ?_⟩ <;> (simp only [wup1]; (repeat' split) <;> omega)
  · intro s q
    rw [c3] at q
    have := he s
    rw [c2]
    refine ⟨?_, ?_, ?_, ?_, ?_⟩ <;> (simp only [wup1]; (repeat' split) <;> omega)
  · intro s q1 q2
    rw [c2] at q1
    have := hz s
    simp only [wup1]; (repeat' split) <;> omega
theorem wTk_p10 {t a : Nat → Nat} (h : zTp t) (hw : wall 10 a (wNm 10) 0 = true) (hg : t 3 < 10 ∧ a 0 < t 2 ∧ a 1 < t 2 ∧ a 0 ≠ a 1) : zTp (wup1 (wup1 (wup1 (wup1 t 3 (t 3 + 1)) (86 + t 3) (a 0)) (96 + t 3) (a 1)) (106 + t 3) (a 2)) := by
  obtain ⟨⟨g0, g1, g2, g3⟩, hv, hs, hh, hn, hq, he, hz⟩ := h
  have hw' : (wbd 10 0 (a 0) && (wbd 10 1 (a 1) && (wbd 10 2 (a 2) && true))) = true := hw
  simp only [Bool.and_eq_true] at hw'
  have b0 : 0 ≤ a 0 ∧ a 0 ≤ 6 := wbd_iff.mp hw'.1
  have b1 : 0 ≤ a 1 ∧ a 1 ≤ 6 := wbd_iff.mp hw'.2.1
  have b2 : 1 ≤ a 2 ∧ a 2 ≤ 60 := wbd_iff.mp hw'.2.2.1
  have c0 : (wup1 (wup1 (wup1 (wup1 t 3 (t 3 + 1)) (86 + t 3) (a 0)) (96 + t 3) (a 1)) (106 + t 3) (a 2)) 0 = t 0 := by (simp only [wup1]; (repeat' split) <;> omega)
  have c1 : (wup1 (wup1 (wup1 (wup1 t 3 (t 3 + 1)) (86 + t 3) (a 0)) (96 + t 3) (a 1)) (106 + t 3) (a 2)) 1 = t 1 := by (simp only [wup1]; (repeat' split) <;> omega)
  have c2 : (wup1 (wup1 (wup1 (wup1 t 3 (t 3 + 1)) (86 + t 3) (a 0)) (96 + t 3) (a 1)) (106 + t 3) (a 2)) 2 = t 2 := by (simp only [wup1]; (repeat' split) <;> omega)
  have c3 : (wup1 (wup1 (wup1 (wup1 t 3 (t 3 + 1)) (86 + t 3) (a 0)) (96 + t 3) (a 1)) (106 + t 3) (a 2)) 3 = t 3 + 1 := by rw [wup1_o (by omega), wup1_o (by omega), wup1_o (by omega), wup1_at]
  refine ⟨⟨by rw [c0]; omega, by rw [c1]; omega, by rw [c2]; omega, by rw [c3]; omega⟩, ?_, ?_, ?_, ?_, ?_, ?_, ?_⟩
  · refine ⟨?_, ?_, ?_, ?_, ?_, ?_, ?_, ?_, ?_, ?_, ?_, ?_, ?_, ?_, ?_, ?_, ?_, ?_⟩ <;> (simp only [wup1]; (repeat' split) <;> omega)
  · intro s q
    rw [c0] at q
    have := hs s
    refine ⟨?_, ?_, ?_, ?_⟩ <;> (simp only [wup1]; (repeat' split) <;> omega)
  · intro s q
    rw [c1] at q
    have := hh s
    refine ⟨?_, ?_, ?_⟩ <;> (simp only [wup1]; (repeat' split) <;> omega)
  · intro s q
    have := hn s q
    simp only [wup1]; (repeat' split) <;> omega
  · intro s q
    rw [c2] at q
    have := hq s
    have := hz s
    refine ⟨?_, ?_⟩ <;> (simp only [wup1]; (repeat' split) <;> omega)
  · intro s q
    rw [c3] at q
    have := he s
    rw [c2]
    refine ⟨?_, ?_, ?_, ?_, ?_⟩ <;> (simp only [wup1]; (repeat' split) <;> omega)
  · intro s q1 q2
    rw [c2] at q1
    have := hz s
    simp only [wup1]; (repeat' split) <;> omega
theorem wTk_p11 {t a : Nat → Nat} (h : zTp t) (hw : wall 11 a (wNm 11) 0 = true) (hg : a 0 < t 2) : zTp (wup1 t (79 + a 0) 1) := by
  obtain ⟨⟨g0, g1, g2, g3⟩, hv, hs, hh, hn, hq, he, hz⟩ := h
  have hw' : (wbd 11 0 (a 0) && true) = true := hw
  simp only [Bool.and_eq_true] at hw'
  have b0 : 0 ≤ a 0 ∧ a 0 ≤ 6 := wbd_iff.mp hw'.1
  have c0 : (wup1 t (79 + a 0) 1) 0 = t 0 := by (simp only [wup1]; (repeat' split) <;> omega)
  have c1 : (wup1 t (79 + a 0) 1) 1 = t 1 := by (simp only [wup1]; (repeat' split) <;> omega)
  have c2 : (wup1 t (79 + a 0) 1) 2 = t 2 := by (simp only [wup1]; (repeat' split) <;> omega)
  have c3 : (wup1 t (79 + a 0) 1) 3 = t 3 := by (simp only [wup1]; (repeat' split) <;> omega)
  refine ⟨⟨by rw [c0]; omega, by rw [c1]; omega, by rw [c2]; omega, by rw [c3]; omega⟩, ?_, ?_, ?_, ?_, ?_, ?_, ?_⟩
  · refine ⟨?_, ?_, ?_, ?_, ?_, ?_, ?_, ?_, ?_, ?_, ?_, ?_, ?_, ?_, ?_, ?_, ?_, ?_⟩ <;> (simp only [wup1]; (repeat' split) <;> omega)
  · intro s q
    rw [c0] at q
    have := hs s
    refine ⟨?_, ?_, ?_, ?_⟩ <;> (simp only [wup1]; (repeat' split) <;> omega)
  · intro s q
    rw [c1] at q
    have := hh s
    refine ⟨?_, ?_, ?_⟩ <;> (simp only [wup1]; (repeat' split) <;> omega)
  · intro s q
    have := hn s q
    simp only [wup1]; (repeat' split) <;> omega
  · intro s q
    rw [c2] at q
    have := hq s
    have := hz s
    refine ⟨?_, ?_⟩ <;> (simp only [wup1]; (repeat' split) <;> omega)
  · intro s q
    rw [c3] at q
    have := he s
    rw [c2]
    refine ⟨?_, ?_, ?_, ?_, ?_⟩ <;> (simp only [wup1]; (repeat' split) <;> omega)
  · intro s q1 q2
    rw [c2] at q1
    have := hz s
    simp only [wup1]; (repeat' split) <;> omega
