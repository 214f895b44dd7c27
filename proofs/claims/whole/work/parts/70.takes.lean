section KP
variable {L : Nat} {ro M : zM} {t a : Nat → Nat}
theorem s54_1_0 (hv : zTv M 1 t) (hp : zTp t) (hw : wall 0 a (wNm 0) 0 = true) (h25 : ∀ j, j < 2 → M 25 j = nI (a j)) : match wTk t 0 a with
    | none => zden (L + 1) 54 0 [some (.ref 1), some (.int (nI 115)), some (.ref 25), none, none] [] M = some (some (.int 0), M)
    | some u => ∃ P, zden (L + 1) 54 0 [some (.ref 1), some (.int (nI 115)), some (.ref 25), none, none] [] M = some (some (.int 1), P) ∧ (∀ i, (i < 1 ∨ 11 < i) → P i = M i) ∧ zTv P 1 u := by
  obtain ⟨⟨g0, g1, g2, g3⟩, -⟩ := id hp
  have hw' : (wbd 0 0 (a 0) && (wbd 0 1 (a 1) && true)) = true := hw
  simp only [Bool.and_eq_true] at hw'
  have b0 : 1 ≤ a 0 ∧ a 0 ≤ 30 := wbd_iff.mp hw'.1
  have b1 : 10 ≤ a 1 ∧ a 1 ≤ 60 := wbd_iff.mp hw'.2.1
  have n0 : M 25 0 = nI (a 0) := h25 0 (by omega)
  have n1 : M 25 1 = nI (a 1) := h25 1 (by omega)
  have v0 : M 1 2 = nI (t 0) := hv.1 0 (by unfold wlv; omega)
  have v1 : M 1 6 = nI (t 1) := hv.1 1 (by unfold wlv; omega)
  have v2 : M 1 9 = nI (t 2) := hv.1 2 (by unfold wlv; omega)
  have v3 : M 1 13 = nI (t 3) := hv.1 3 (by unfold wlv; omega)
  have e0 : zden (L + 1) 54 0 [some (.ref 1), some (.int (nI 115)), some (.ref 25), none, none] [] M = zden (L + 1) 54 108 [some (.ref 1), some (.int (nI 115)), some (.ref 25), some (.int (nI (a 0))), some (.int (M 25 1))] [] M := by
    rw [e54_1_25_0, show (0 : Int32) = nI 0 from rfl, s4_25, zbI_some, zrd_nI (by omega), if_pos (show 0 < 3 by omega), n0, show (1 : Int32) = nI 1 from rfl, s4_25, zbI_some, zrd_nI (by omega), if_pos (show 1 < 3 by omega), if_neg (show ¬ nI 115 = 97 by decide), if_neg (show ¬ nI 115 = 98 by decide), if_neg (show ¬ nI 115 = 99 by decide), if_neg (show ¬ nI 115 = 100 by decide), if_neg (show ¬ nI 115 = 101 by decide), if_neg (show ¬ nI 115 = 102 by decide), if_neg (show ¬ nI 115 = 103 by decide), if_neg (show ¬ nI 115 = 104 by decide), if_neg (show ¬ nI 115 = 105 by decide), if_neg (show ¬ nI 115 = 106 by decide), if_neg (show ¬ nI 115 = 107 by decide), if_neg (show ¬ nI 115 = 108 by decide), if_neg (show ¬ nI 115 = 109 by decide), if_neg (show ¬ nI 115 = 110 by decide), if_neg (show ¬ nI 115 = 111 by decide), if_neg (show ¬ nI 115 = 112 by decide), if_neg (show ¬ nI 115 = 113 by decide), if_neg (show ¬ nI 115 = 114 by decide), if_pos (show nI 115 = 115 from rfl)]
  by_cases hg : t 0 < 12
  · rw [show wTk t 0 a = some (wup1 (wup1 (wup1 t 0 (t 0 + 1)) (16 + t 0) (a 0)) (28 + t 0) (a 1)) by unfold wTk; exact if_pos hg]
    refine ⟨(zput (zput (zput M 2 (t 0) (nI (a 0))) 3 (t 0) (nI (a 1))) 1 2 (nI (t 0 + 1))), ?_, fun i hi => by rw [zput_ne (by omega), zput_ne (by omega), zput_ne (by omega)], wv_0 hv hp hw hg⟩
    rw [e0, e54_1_25_108, n1, e47_1_0, v0, if_pos (show nI (t 0) < 12 from nI_lt (b := 12) hg (by omega)), s5_2, zbV_some, zwr_nI (by omega) (by omega), zput_ne (show 1 ≠ 2 by omega), v0, s5_3, zbV_some, zwr_nI (by omega) (by omega), zput_ne (show 1 ≠ 3 by omega), zput_ne (show 1 ≠ 2 by omega), v0, nI_1, zbI_some, if_pos zfit_1]
  · rw [show wTk t 0 a = none by unfold wTk; exact if_neg hg]
    show zden (L + 1) 54 0 [some (.ref 1), some (.int (nI 115)), some (.ref 25), none, none] [] M = some (some (.int 0), M)
    rw [e0, e54_1_25_108, n1, e47_1_0, v0, if_neg (show ¬ nI (t 0) < 12 from nI_nlt (b := 12) (by omega) (by omega)), zbI_some, if_pos zfit_0]
theorem s54_1_1 (hv : zTv M 1 t) (hp : zTp t) (hw : wall 1 a (wNm 1) 0 = true) (h25 : ∀ j, j < 3 → M 25 j = nI (a j)) : match wTk t 1 a with
    | none => zden (L + 1) 54 0 [some (.ref 1), some (.int (nI 112)), some (.ref 25), none, none] [] M = some (some (.int 0), M)
    | some u => ∃ P, zden (L + 1) 54 0 [some (.ref 1), some (.int (nI 112)), some (.ref 25), none, none] [] M = some (some (.int 1), P) ∧ (∀ i, (i < 1 ∨ 11 < i) → P i = M i) ∧ zTv P 1 u := by
  obtain ⟨⟨g0, g1, g2, g3⟩, -⟩ := id hp
  have hw' : (wbd 1 0 (a 0) && (wbd 1 1 (a 1) && (wbd 1 2 (a 2) && true))) = true := hw
  simp only [Bool.and_eq_true] at hw'
  have b0 : 3 ≤ a 0 ∧ a 0 ≤ 40 := wbd_iff.mp hw'.1
  have b1 : 1 ≤ a 1 ∧ a 1 ≤ 60 := wbd_iff.mp hw'.2.1
  have b2 : 1 ≤ a 2 ∧ a 2 ≤ 99 := wbd_iff.mp hw'.2.2.1
  have n0 : M 25 0 = nI (a 0) := h25 0 (by omega)
  have n1 : M 25 1 = nI (a 1) := h25 1 (by omega)
  have n2 : M 25 2 = nI (a 2) := h25 2 (by omega)
  have v0 : M 1 2 = nI (t 0) := hv.1 0 (by unfold wlv; omega)
  have v1 : M 1 6 = nI (t 1) := hv.1 1 (by unfold wlv; omega)
  have v2 : M 1 9 = nI (t 2) := hv.1 2 (by unfold wlv; omega)
  have v3 : M 1 13 = nI (t 3) := hv.1 3 (by unfold wlv; omega)
  have e0 : zden (L + 1) 54 0 [some (.ref 1), some (.int (nI 112)), some (.ref 25), none, none] [] M = zden (L + 1) 54 116 [some (.ref 1), some (.int (nI 112)), some (.ref 25), some (.int (nI (a 0))), some (.int (M 25 1))] [] M := by
    rw [e54_1_25_0, show (0 : Int32) = nI 0 from rfl, s4_25, zbI_some, zrd_nI (by omega), if_pos (show 0 < 3 by omega), n0, show (1 : Int32) = nI 1 from rfl, s4_25, zbI_some, zrd_nI (by omega), if_pos (show 1 < 3 by omega), if_neg (show ¬ nI 112 = 97 by decide), if_neg (show ¬ nI 112 = 98 by decide), if_neg (show ¬ nI 112 = 99 by decide), if_neg (show ¬ nI 112 = 100 by decide), if_neg (show ¬ nI 112 = 101 by decide), if_neg (show ¬ nI 112 = 102 by decide), if_neg (show ¬ nI 112 = 103 by decide), if_neg (show ¬ nI 112 = 104 by decide), if_neg (show ¬ nI 112 = 105 by decide), if_neg (show ¬ nI 112 = 106 by decide), if_neg (show ¬ nI 112 = 107 by decide), if_neg (show ¬ nI 112 = 108 by decide), if_neg (show ¬ nI 112 = 109 by decide), if_neg (show ¬ nI 112 = 110 by decide), if_neg (show ¬ nI 112 = 111 by decide), if_pos (show nI 112 = 112 from rfl)]
  refine ⟨(zput (zput (zput M 4 0 (nI (a 0))) 4 1 (nI (a 1))) 4 2 (nI (a 2))), ?_, fun i hi => by rw [zput_ne (by omega), zput_ne (by omega), zput_ne (by omega)], wv_1 hv hp hw⟩
  rw [e0, e54_1_25_116, e48_1_25_0, show (3 : Int32) = nI 3 from rfl, show (0 : Int32) = nI 0 from rfl]
  rw [e48_1_25_3, if_pos (show nI 0 < nI 3 by decide), s4_25, zbI_some, zrd_nI (by omega), if_pos (show 0 < 3 by omega), n0, show nI 0 + nI 0 = nI 0 from rfl, s5_4, zbV_some, zwr_nI (by omega) (by omega), show nI 0 + 1 = nI 1 from rfl, e48_1_25_3, if_pos (show nI 1 < nI 3 by decide), s4_25, zbI_some, zrd_nI (by omega), if_pos (show 1 < 3 by omega), zput_ne (by omega), n1, show nI 0 + nI 1 = nI 1 from rfl, s5_4, zbV_some, zwr_nI (by omega) (by omega), show nI 1 + 1 = nI 2 from rfl, e48_1_25_3, if_pos (show nI 2 < nI 3 by decide), s4_25, zbI_some, zrd_nI (by omega), if_pos (show 2 < 3 by omega), zput_ne (by omega), zput_ne (by omega), n2, show nI 0 + nI 2 = nI 2 from rfl, s5_4, zbV_some, zwr_nI (by omega) (by omega), show nI 2 + 1 = nI 3 from rfl, e48_1_25_3, if_neg (show ¬ nI 3 < nI 3 by decide), zbI_some, if_pos zfit_1]
theorem s54_1_2 (hv : zTv M 1 t) (hp : zTp t) (hw : wall 2 a (wNm 2) 0 = true) (h25 : ∀ j, j < 1 → M 25 j = nI (a j)) : match wTk t 2 a with
    | none => zden (L + 1) 54 0 [some (.ref 1), some (.int (nI 98)), some (.ref 25), none, none] [] M = some (some (.int 0), M)
    | some u => ∃ P, zden (L + 1) 54 0 [some (.ref 1), some (.int (nI 98)), some (.ref 25), none, none] [] M = some (some (.int 1), P) ∧ (∀ i, (i < 1 ∨ 11 < i) → P i = M i) ∧ zTv P 1 u := by
  obtain ⟨⟨g0, g1, g2, g3⟩, -⟩ := id hp
  have hw' : (wbd 2 0 (a 0) && true) = true := hw
  simp only [Bool.and_eq_true] at hw'
  have b0 : 0 ≤ a 0 ∧ a 0 ≤ 40 := wbd_iff.mp hw'.1
  have n0 : M 25 0 = nI (a 0) := h25 0 (by omega)
  have v0 : M 1 2 = nI (t 0) := hv.1 0 (by unfold wlv; omega)
  have v1 : M 1 6 = nI (t 1) := hv.1 1 (by unfold wlv; omega)
  have v2 : M 1 9 = nI (t 2) := hv.1 2 (by unfold wlv; omega)
  have v3 : M 1 13 = nI (t 3) := hv.1 3 (by unfold wlv; omega)
  have e0 : zden (L + 1) 54 0 [some (.ref 1), some (.int (nI 98)), some (.ref 25), none, none] [] M = zden (L + 1) 54 124 [some (.ref 1), some (.int (nI 98)), some (.ref 25), some (.int (nI (a 0))), some (.int (M 25 1))] [] M := by
    rw [e54_1_25_0, show (0 : Int32) = nI 0 from rfl, s4_25, zbI_some, zrd_nI (by omega), if_pos (show 0 < 3 by omega), n0, show (1 : Int32) = nI 1 from rfl, s4_25, zbI_some, zrd_nI (by omega), if_pos (show 1 < 3 by omega), if_neg (show ¬ nI 98 = 97 by decide), if_pos (show nI 98 = 98 from rfl)]
  refine ⟨(zput M 4 3 (nI (a 0))), ?_, fun i hi => by rw [zput_ne (by omega)], wv_2 hv hp hw⟩
  rw [e0, e54_1_25_124, e48_1_25_0, show (3 : Int32) = nI 3 from rfl, show (1 : Int32) = nI 1 from rfl, show (0 : Int32) = nI 0 from rfl]
  rw [e48_1_25_3, if_pos (show nI 0 < nI 1 by decide), s4_25, zbI_some, zrd_nI (by omega), if_pos (show 0 < 3 by omega), n0, show nI 3 + nI 0 = nI 3 from rfl, s5_4, zbV_some, zwr_nI (by omega) (by omega), show nI 0 + 1 = nI 1 from rfl, e48_1_25_3, if_neg (show ¬ nI 1 < nI 1 by decide), zbI_some, if_pos zfit_1]
  rfl
theorem s54_1_3 (hv : zTv M 1 t) (hp : zTp t) (hw : wall 3 a (wNm 3) 0 = true) (h25 : ∀ j, j < 3 → M 25 j = nI (a j)) : match wTk t 3 a with
    | none => zden (L + 1) 54 0 [some (.ref 1), some (.int (nI 107)), some (.ref 25), none, none] [] M = some (some (.int 0), M)
    | some u => ∃ P, zden (L + 1) 54 0 [some (.ref 1), some (.int (nI 107)), some (.ref 25), none, none] [] M = some (some (.int 1), P) ∧ (∀ i, (i < 1 ∨ 11 < i) → P i = M i) ∧ zTv P 1 u := by
  obtain ⟨⟨g0, g1, g2, g3⟩, -⟩ := id hp
  have hw' : (wbd 3 0 (a 0) && (wbd 3 1 (a 1) && (wbd 3 2 (a 2) && true))) = true := hw
  simp only [Bool.and_eq_true] at hw'
  have b0 : 0 ≤ a 0 ∧ a 0 ≤ 40 := wbd_iff.mp hw'.1
  have b1 : 0 ≤ a 1 ∧ a 1 ≤ 99 := wbd_iff.mp hw'.2.1
  have b2 : 0 ≤ a 2 ∧ a 2 ≤ 99 := wbd_iff.mp hw'.2.2.1
  have n0 : M 25 0 = nI (a 0) := h25 0 (by omega)
  have n1 : M 25 1 = nI (a 1) := h25 1 (by omega)
  have n2 : M 25 2 = nI (a 2) := h25 2 (by omega)
  have v0 : M 1 2 = nI (t 0) := hv.1 0 (by unfold wlv; omega)
  have v1 : M 1 6 = nI (t 1) := hv.1 1 (by unfold wlv; omega)
  have v2 : M 1 9 = nI (t 2) := hv.1 2 (by unfold wlv; omega)
  have v3 : M 1 13 = nI (t 3) := hv.1 3 (by unfold wlv; omega)
  have e0 : zden (L + 1) 54 0 [some (.ref 1), some (.int (nI 107)), some (.ref 25), none, none] [] M = zden (L + 1) 54 132 [some (.ref 1), some (.int (nI 107)), some (.ref 25), some (.int (nI (a 0))), some (.int (M 25 1))] [] M := by
    rw [e54_1_25_0, show (0 : Int32) = nI 0 from rfl, s4_25, zbI_some, zrd_nI (by omega), if_pos (show 0 < 3 by omega), n0, show (1 : Int32) = nI 1 from rfl, s4_25, zbI_some, zrd_nI (by omega), if_pos (show 1 < 3 by omega), if_neg (show ¬ nI 107 = 97 by decide), if_neg (show ¬ nI 107 = 98 by decide), if_neg (show ¬ nI 107 = 99 by decide), if_neg (show ¬ nI 107 = 100 by decide), if_neg (show ¬ nI 107 = 101 by decide), if_neg (show ¬ nI 107 = 102 by decide), if_neg (show ¬ nI 107 = 103 by decide), if_neg (show ¬ nI 107 = 104 by decide), if_neg (show ¬ nI 107 = 105 by decide), if_neg (show ¬ nI 107 = 106 by decide), if_pos (show nI 107 = 107 from rfl)]
  refine ⟨(zput (zput (zput M 4 4 (nI (a 0))) 4 5 (nI (a 1))) 4 6 (nI (a 2))), ?_, fun i hi => by rw [zput_ne (by omega), zput_ne (by omega), zput_ne (by omega)], wv_3 hv hp hw⟩
  rw [e0, e54_1_25_132, e48_1_25_0, show (4 : Int32) = nI 4 from rfl, show (3 : Int32) = nI 3 from rfl, show (0 : Int32) = nI 0 from rfl]
  rw [e48_1_25_3, if_pos (show nI 0 < nI 3 by decide), s4_25, zbI_some, zrd_nI (by omega), if_pos (show 0 < 3 by omega), n0, show nI 4 + nI 0 = nI 4 from rfl, s5_4, zbV_some, zwr_nI (by omega) (by omega), show nI 0 + 1 = nI 1 from rfl, e48_1_25_3, if_pos (show nI 1 < nI 3 by decide), s4_25, zbI_some, zrd_nI (by omega), if_pos (show 1 < 3 by omega), zput_ne (by omega), n1, show nI 4 + nI 1 = nI 5 from rfl, s5_4, zbV_some, zwr_nI (by omega) (by omega), show nI 1 + 1 = nI 2 from rfl, e48_1_25_3, if_pos (show nI 2 < nI 3 by decide), s4_25, zbI_some, zrd_nI (by omega), if_pos (show 2 < 3 by omega), zput_ne (by omega), zput_ne (by omega), n2, show nI 4 + nI 2 = nI 6 from rfl, s5_4, zbV_some, zwr_nI (by omega) (by omega), show nI 2 + 1 = nI 3 from rfl, e48_1_25_3, if_neg (show ¬ nI 3 < nI 3 by decide), zbI_some, if_pos zfit_1]
theorem s54_1_4 (hv : zTv M 1 t) (hp : zTp t) (hw : wall 4 a (wNm 4) 0 = true) (h25 : ∀ j, j < 2 → M 25 j = nI (a j)) : match wTk t 4 a with
    | none => zden (L + 1) 54 0 [some (.ref 1), some (.int (nI 97)), some (.ref 25), none, none] [] M = some (some (.int 0), M)
    | some u => ∃ P, zden (L + 1) 54 0 [some (.ref 1), some (.int (nI 97)), some (.ref 25), none, none] [] M = some (some (.int 1), P) ∧ (∀ i, (i < 1 ∨ 11 < i) → P i = M i) ∧ zTv P 1 u := by
  obtain ⟨⟨g0, g1, g2, g3⟩, -⟩ := id hp
  have hw' : (wbd 4 0 (a 0) && (wbd 4 1 (a 1) && true)) = true := hw
  simp only [Bool.and_eq_true] at hw'
  have b0 : 1 ≤ a 0 ∧ a 0 ≤ 99 := wbd_iff.mp hw'.1
  have b1 : 1 ≤ a 1 ∧ a 1 ≤ 99 := wbd_iff.mp hw'.2.1
  have n0 : M 25 0 = nI (a 0) := h25 0 (by omega)
  have n1 : M 25 1 = nI (a 1) := h25 1 (by omega)
  have v0 : M 1 2 = nI (t 0) := hv.1 0 (by unfold wlv; omega)
  have v1 : M 1 6 = nI (t 1) := hv.1 1 (by unfold wlv; omega)
  have v2 : M 1 9 = nI (t 2) := hv.1 2 (by unfold wlv; omega)
  have v3 : M 1 13 = nI (t 3) := hv.1 3 (by unfold wlv; omega)
  have e0 : zden (L + 1) 54 0 [some (.ref 1), some (.int (nI 97)), some (.ref 25), none, none] [] M = zden (L + 1) 54 140 [some (.ref 1), some (.int (nI 97)), some (.ref 25), some (.int (nI (a 0))), some (.int (M 25 1))] [] M := by
    rw [e54_1_25_0, show (0 : Int32) = nI 0 from rfl, s4_25, zbI_some, zrd_nI (by omega), if_pos (show 0 < 3 by omega), n0, show (1 : Int32) = nI 1 from rfl, s4_25, zbI_some, zrd_nI (by omega), if_pos (show 1 < 3 by omega), if_pos (show nI 97 = 97 from rfl)]
  refine ⟨(zput (zput M 4 7 (nI (a 0))) 4 8 (nI (a 1))), ?_, fun i hi => by rw [zput_ne (by omega), zput_ne (by omega)], wv_4 hv hp hw⟩
  rw [e0, e54_1_25_140, e48_1_25_0, show (7 : Int32) = nI 7 from rfl, show (2 : Int32) = nI 2 from rfl, show (0 : Int32) = nI 0 from rfl]
  rw [e48_1_25_3, if_pos (show nI 0 < nI 2 by decide), s4_25, zbI_some, zrd_nI (by omega), if_pos (show 0 < 3 by omega), n0, show nI 7 + nI 0 = nI 7 from rfl, s5_4, zbV_some, zwr_nI (by omega) (by omega), show nI 0 + 1 = nI 1 from rfl, e48_1_25_3, if_pos (show nI 1 < nI 2 by decide), s4_25, zbI_some, zrd_nI (by omega), if_pos (show 1 < 3 by omega), zput_ne (by omega), n1, show nI 7 + nI 1 = nI 8 from rfl, s5_4, zbV_some, zwr_nI (by omega) (by omega), show nI 1 + 1 = nI 2 from rfl, e48_1_25_3, if_neg (show ¬ nI 2 < nI 2 by decide), zbI_some, if_pos zfit_1]
theorem s54_1_5 (hv : zTv M 1 t) (hp : zTp t) (hw : wall 5 a (wNm 5) 0 = true) (h25 : ∀ j, j < 2 → M 25 j = nI (a j)) : match wTk t 5 a with
    | none => zden (L + 1) 54 0 [some (.ref 1), some (.int (nI 104)), some (.ref 25), none, none] [] M = some (some (.int 0), M)
    | some u => ∃ P, zden (L + 1) 54 0 [some (.ref 1), some (.int (nI 104)), some (.ref 25), none, none] [] M = some (some (.int 1), P) ∧ (∀ i, (i < 1 ∨ 11 < i) → P i = M i) ∧ zTv P 1 u := by
  obtain ⟨⟨g0, g1, g2, g3⟩, -⟩ := id hp
  have hw' : (wbd 5 0 (a 0) && (wbd 5 1 (a 1) && true)) = true := hw
  simp only [Bool.and_eq_true] at hw'
  have b0 : 1 ≤ a 0 ∧ a 0 ≤ 99 := wbd_iff.mp hw'.1
  have b1 : 0 ≤ a 1 ∧ a 1 ≤ 10 := wbd_iff.mp hw'.2.1
  have n0 : M 25 0 = nI (a 0) := h25 0 (by omega)
  have n1 : M 25 1 = nI (a 1) := h25 1 (by omega)
  have v0 : M 1 2 = nI (t 0) := hv.1 0 (by unfold wlv; omega)
  have v1 : M 1 6 = nI (t 1) := hv.1 1 (by unfold wlv; omega)
  have v2 : M 1 9 = nI (t 2) := hv.1 2 (by unfold wlv; omega)
  have v3 : M 1 13 = nI (t 3) := hv.1 3 (by unfold wlv; omega)
  have e0 : zden (L + 1) 54 0 [some (.ref 1), some (.int (nI 104)), some (.ref 25), none, none] [] M = zden (L + 1) 54 149 [some (.ref 1), some (.int (nI 104)), some (.ref 25), some (.int (nI (a 0))), some (.int (M 25 1))] [] M := by
    rw [e54_1_25_0, show (0 : Int32) = nI 0 from rfl, s4_25, zbI_some, zrd_nI (by omega), if_pos (show 0 < 3 by omega), n0, show (1 : Int32) = nI 1 from rfl, s4_25, zbI_some, zrd_nI (by omega), if_pos (show 1 < 3 by omega), if_neg (show ¬ nI 104 = 97 by decide), if_neg (show ¬ nI 104 = 98 by decide), if_neg (show ¬ nI 104 = 99 by decide), if_neg (show ¬ nI 104 = 100 by decide), if_neg (show ¬ nI 104 = 101 by decide), if_neg (show ¬ nI 104 = 102 by decide), if_neg (show ¬ nI 104 = 103 by decide), if_pos (show nI 104 = 104 from rfl)]
  by_cases hg : t 1 < 4
  · rw [show wTk t 5 a = some (wup1 (wup1 (wup1 t 1 (t 1 + 1)) (40 + t 1) (a 0)) (44 + t 1) (a 1)) by unfold wTk; exact if_pos hg]
    refine ⟨(zput (zput (zput M 5 (t 1) (nI (a 0))) 6 (t 1) (nI (a 1))) 1 6 (nI (t 1 + 1))), ?_, fun i hi => by rw [zput_ne (by omega), zput_ne (by omega), zput_ne (by omega)], wv_5 hv hp hw hg⟩
    rw [e0, e54_1_25_149, n1, e49_1_0, v1, if_pos (show nI (t 1) < 4 from nI_lt (b := 4) hg (by omega)), s5_5, zbV_some, zwr_nI (by omega) (by omega), zput_ne (show 1 ≠ 5 by omega), v1, s5_6, zbV_some, zwr_nI (by omega) (by omega), zput_ne (show 1 ≠ 6 by omega), zput_ne (show 1 ≠ 5 by omega), v1, nI_1, zbI_some, if_pos zfit_1]
  · rw [show wTk t 5 a = none by unfold wTk; exact if_neg hg]
    show zden (L + 1) 54 0 [some (.ref 1), some (.int (nI 104)), some (.ref 25), none, none] [] M = some (some (.int 0), M)
    rw [e0, e54_1_25_149, n1, e49_1_0, v1, if_neg (show ¬ nI (t 1) < 4 from nI_nlt (b := 4) (by omega) (by omega)), zbI_some, if_pos zfit_0]
theorem s54_1_6 (hv : zTv M 1 t) (hp : zTp t) (hw : wall 6 a (wNm 6) 0 = true) (h25 : ∀ j, j < 2 → M 25 j = nI (a j)) : match wTk t 6 a with
    | none => zden (L + 1) 54 0 [some (.ref 1), some (.int (nI 110)), some (.ref 25), none, none] [] M = some (some (.int 0), M)
    | some u => ∃ P, zden (L + 1) 54 0 [some (.ref 1), some (.int (nI 110)), some (.ref 25), none, none] [] M = some (some (.int 1), P) ∧ (∀ i, (i < 1 ∨ 11 < i) → P i = M i) ∧ zTv P 1 u := by
  obtain ⟨⟨g0, g1, g2, g3⟩, -⟩ := id hp
  have hw' : (wbd 6 0 (a 0) && (wbd 6 1 (a 1) && true)) = true := hw
  simp only [Bool.and_eq_true] at hw'
  have b0 : 0 ≤ a 0 ∧ a 0 ≤ 23 := wbd_iff.mp hw'.1
  have b1 : 0 ≤ a 1 ∧ a 1 ≤ 9 := wbd_iff.mp hw'.2.1
  have n0 : M 25 0 = nI (a 0) := h25 0 (by omega)
  have n1 : M 25 1 = nI (a 1) := h25 1 (by omega)
  have v0 : M 1 2 = nI (t 0) := hv.1 0 (by unfold wlv; omega)
  have v1 : M 1 6 = nI (t 1) := hv.1 1 (by unfold wlv; omega)
  have v2 : M 1 9 = nI (t 2) := hv.1 2 (by unfold wlv; omega)
  have v3 : M 1 13 = nI (t 3) := hv.1 3 (by unfold wlv; omega)
  have e0 : zden (L + 1) 54 0 [some (.ref 1), some (.int (nI 110)), some (.ref 25), none, none] [] M = zden (L + 1) 54 157 [some (.ref 1), some (.int (nI 110)), some (.ref 25), some (.int (nI (a 0))), some (.int (M 25 1))] [] M := by
    rw [e54_1_25_0, show (0 : Int32) = nI 0 from rfl, s4_25, zbI_some, zrd_nI (by omega), if_pos (show 0 < 3 by omega), n0, show (1 : Int32) = nI 1 from rfl, s4_25, zbI_some, zrd_nI (by omega), if_pos (show 1 < 3 by omega), if_neg (show ¬ nI 110 = 97 by decide), if_neg (show ¬ nI 110 = 98 by decide), if_neg (show ¬ nI 110 = 99 by decide), if_neg (show ¬ nI 110 = 100 by decide), if_neg (show ¬ nI 110 = 101 by decide), if_neg (show ¬ nI 110 = 102 by decide), if_neg (show ¬ nI 110 = 103 by decide), if_neg (show ¬ nI 110 = 104 by decide), if_neg (show ¬ nI 110 = 105 by decide), if_neg (show ¬ nI 110 = 106 by decide), if_neg (show ¬ nI 110 = 107 by decide), if_neg (show ¬ nI 110 = 108 by decide), if_neg (show ¬ nI 110 = 109 by decide), if_pos (show nI 110 = 110 from rfl)]
  refine ⟨(zput M 7 (a 0) (nI (a 1))), ?_, fun i hi => by rw [zput_ne (by omega)], wv_6 hv hp hw⟩
  rw [e0, e54_1_25_157, e50_1_0, n1, s5_7, zbV_some, zwr_nI (by omega) (by omega), zbI_some, if_pos zfit_1]
theorem s54_1_7 (hv : zTv M 1 t) (hp : zTp t) (hw : wall 7 a (wNm 7) 0 = true) (h25 : ∀ j, j < 2 → M 25 j = nI (a j)) : match wTk t 7 a with
    | none => zden (L + 1) 54 0 [some (.ref 1), some (.int (nI 113)), some (.ref 25), none, none] [] M = some (some (.int 0), M)
    | some u => ∃ P, zden (L + 1) 54 0 [some (.ref 1), some (.int (nI 113)), some (.ref 25), none, none] [] M = some (some (.int 1), P) ∧ (∀ i, (i < 1 ∨ 11 < i) → P i = M i) ∧ zTv P 1 u := by
  obtain ⟨⟨g0, g1, g2, g3⟩, -⟩ := id hp
  have hw' : (wbd 7 0 (a 0) && (wbd 7 1 (a 1) && true)) = true := hw
  simp only [Bool.and_eq_true] at hw'
  have b0 : 0 ≤ a 0 ∧ a 0 ≤ 99 := wbd_iff.mp hw'.1
  have b1 : 0 ≤ a 1 ∧ a 1 ≤ 99 := wbd_iff.mp hw'.2.1
  have n0 : M 25 0 = nI (a 0) := h25 0 (by omega)
  have n1 : M 25 1 = nI (a 1) := h25 1 (by omega)
  have v0 : M 1 2 = nI (t 0) := hv.1 0 (by unfold wlv; omega)
  have v1 : M 1 6 = nI (t 1) := hv.1 1 (by unfold wlv; omega)
  have v2 : M 1 9 = nI (t 2) := hv.1 2 (by unfold wlv; omega)
  have v3 : M 1 13 = nI (t 3) := hv.1 3 (by unfold wlv; omega)
  have e0 : zden (L + 1) 54 0 [some (.ref 1), some (.int (nI 113)), some (.ref 25), none, none] [] M = zden (L + 1) 54 165 [some (.ref 1), some (.int (nI 113)), some (.ref 25), some (.int (nI (a 0))), some (.int (M 25 1))] [] M := by
    rw [e54_1_25_0, show (0 : Int32) = nI 0 from rfl, s4_25, zbI_some, zrd_nI (by omega), if_pos (show 0 < 3 by omega), n0, show (1 : Int32) = nI 1 from rfl, s4_25, zbI_some, zrd_nI (by omega), if_pos (show 1 < 3 by omega), if_neg (show ¬ nI 113 = 97 by decide), if_neg (show ¬ nI 113 = 98 by decide), if_neg (show ¬ nI 113 = 99 by decide), if_neg (show ¬ nI 113 = 100 by decide), if_neg (show ¬ nI 113 = 101 by decide), if_neg (show ¬ nI 113 = 102 by decide), if_neg (show ¬ nI 113 = 103 by decide), if_neg (show ¬ nI 113 = 104 by decide), if_neg (show ¬ nI 113 = 105 by decide), if_neg (show ¬ nI 113 = 106 by decide), if_neg (show ¬ nI 113 = 107 by decide), if_neg (show ¬ nI 113 = 108 by decide), if_neg (show ¬ nI 113 = 109 by decide), if_neg (show ¬ nI 113 = 110 by decide), if_neg (show ¬ nI 113 = 111 by decide), if_neg (show ¬ nI 113 = 112 by decide), if_pos (show nI 113 = 113 from rfl)]
  refine ⟨(zput (zput M 4 9 (nI (a 0))) 4 10 (nI (a 1))), ?_, fun i hi => by rw [zput_ne (by omega), zput_ne (by omega)], wv_7 hv hp hw⟩
  rw [e0, e54_1_25_165, e48_1_25_0, show (9 : Int32) = nI 9 from rfl, show (2 : Int32) = nI 2 from rfl, show (0 : Int32) = nI 0 from rfl]
  rw [e48_1_25_3, if_pos (show nI 0 < nI 2 by decide), s4_25, zbI_some, zrd_nI (by omega), if_pos (show 0 < 3 by omega), n0, show nI 9 + nI 0 = nI 9 from rfl, s5_4, zbV_some, zwr_nI (by omega) (by omega), show nI 0 + 1 = nI 1 from rfl, e48_1_25_3, if_pos (show nI 1 < nI 2 by decide), s4_25, zbI_some, zrd_nI (by omega), if_pos (show 1 < 3 by omega), zput_ne (by omega), n1, show nI 9 + nI 1 = nI 10 from rfl, s5_4, zbV_some, zwr_nI (by omega) (by omega), show nI 1 + 1 = nI 2 from rfl, e48_1_25_3, if_neg (show ¬ nI 2 < nI 2 by decide), zbI_some, if_pos zfit_1]
theorem s54_1_8 (hv : zTv M 1 t) (hp : zTp t) (hw : wall 8 a (wNm 8) 0 = true) (h25 : ∀ j, j < 1 → M 25 j = nI (a j)) : match wTk t 8 a with
    | none => zden (L + 1) 54 0 [some (.ref 1), some (.int (nI 109)), some (.ref 25), none, none] [] M = some (some (.int 0), M)
    | some u => ∃ P, zden (L + 1) 54 0 [some (.ref 1), some (.int (nI 109)), some (.ref 25), none, none] [] M = some (some (.int 1), P) ∧ (∀ i, (i < 1 ∨ 11 < i) → P i = M i) ∧ zTv P 1 u := by
  obtain ⟨⟨g0, g1, g2, g3⟩, -⟩ := id hp
  have hw' : (wbd 8 0 (a 0) && true) = true := hw
  simp only [Bool.and_eq_true] at hw'
  have b0 : 1 ≤ a 0 ∧ a 0 ≤ 99 := wbd_iff.mp hw'.1
  have n0 : M 25 0 = nI (a 0) := h25 0 (by omega)
  have v0 : M 1 2 = nI (t 0) := hv.1 0 (by unfold wlv; omega)
  have v1 : M 1 6 = nI (t 1) := hv.1 1 (by unfold wlv; omega)
  have v2 : M 1 9 = nI (t 2) := hv.1 2 (by unfold wlv; omega)
  have v3 : M 1 13 = nI (t 3) := hv.1 3 (by unfold wlv; omega)
  have e0 : zden (L + 1) 54 0 [some (.ref 1), some (.int (nI 109)), some (.ref 25), none, none] [] M = zden (L + 1) 54 174 [some (.ref 1), some (.int (nI 109)), some (.ref 25), some (.int (nI (a 0))), some (.int (M 25 1))] [] M := by
    rw [e54_1_25_0, show (0 : Int32) = nI 0 from rfl, s4_25, zbI_some, zrd_nI (by omega), if_pos (show 0 < 3 by omega), n0, show (1 : Int32) = nI 1 from rfl, s4_25, zbI_some, zrd_nI (by omega), if_pos (show 1 < 3 by omega), if_neg (show ¬ nI 109 = 97 by decide), if_neg (show ¬ nI 109 = 98 by decide), if_neg (show ¬ nI 109 = 99 by decide), if_neg (show ¬ nI 109 = 100 by decide), if_neg (show ¬ nI 109 = 101 by decide), if_neg (show ¬ nI 109 = 102 by decide), if_neg (show ¬ nI 109 = 103 by decide), if_neg (show ¬ nI 109 = 104 by decide), if_neg (show ¬ nI 109 = 105 by decide), if_neg (show ¬ nI 109 = 106 by decide), if_neg (show ¬ nI 109 = 107 by decide), if_neg (show ¬ nI 109 = 108 by decide), if_pos (show nI 109 = 109 from rfl)]
  refine ⟨(zput M 4 11 (nI (a 0))), ?_, fun i hi => by rw [zput_ne (by omega)], wv_8 hv hp hw⟩
  rw [e0, e54_1_25_174, e48_1_25_0, show (11 : Int32) = nI 11 from rfl, show (1 : Int32) = nI 1 from rfl, show (0 : Int32) = nI 0 from rfl]
  rw [e48_1_25_3, if_pos (show nI 0 < nI 1 by decide), s4_25, zbI_some, zrd_nI (by omega), if_pos (show 0 < 3 by omega), n0, show nI 11 + nI 0 = nI 11 from rfl, s5_4, zbV_some, zwr_nI (by omega) (by omega), show nI 0 + 1 = nI 1 from rfl, e48_1_25_3, if_neg (show ¬ nI 1 < nI 1 by decide), zbI_some, if_pos zfit_1]
  rfl
theorem s54_1_9 (hv : zTv M 1 t) (hp : zTp t) (hw : wall 9 a (wNm 9) 0 = true) (h25 : ∀ j, j < 1 → M 25 j = nI (a j)) : match wTk t 9 a with
    | none => zden (L + 1) 54 0 [some (.ref 1), some (.int (nI 116)), some (.ref 25), none, none] [] M = some (some (.int 0), M)
    | some u => ∃ P, zden (L + 1) 54 0 [some (.ref 1), some (.int (nI 116)), some (.ref 25), none, none] [] M = some (some (.int 1), P) ∧ (∀ i, (i < 1 ∨ 11 < i) → P i = M i) ∧ zTv P 1 u := by
  obtain ⟨⟨g0, g1, g2, g3⟩, -⟩ := id hp
  have hw' : (wbd 9 0 (a 0) && true) = true := hw
  simp only [Bool.and_eq_true] at hw'
  have b0 : 0 ≤ a 0 ∧ a 0 ≤ 60 := wbd_iff.mp hw'.1
  have n0 : M 25 0 = nI (a 0) := h25 0 (by omega)
  have v0 : M 1 2 = nI (t 0) := hv.1 0 (by unfold wlv; omega)
  have v1 : M 1 6 = nI (t 1) := hv.1 1 (by unfold wlv; omega)
  have v2 : M 1 9 = nI (t 2) := hv.1 2 (by unfold wlv; omega)
  have v3 : M 1 13 = nI (t 3) := hv.1 3 (by unfold wlv; omega)
  have e0 : zden (L + 1) 54 0 [some (.ref 1), some (.int (nI 116)), some (.ref 25), none, none] [] M = zden (L + 1) 54 183 [some (.ref 1), some (.int (nI 116)), some (.ref 25), some (.int (nI (a 0))), some (.int (M 25 1))] [] M := by
    rw [e54_1_25_0, show (0 : Int32) = nI 0 from rfl, s4_25, zbI_some, zrd_nI (by omega), if_pos (show 0 < 3 by omega), n0, show (1 : Int32) = nI 1 from rfl, s4_25, zbI_some, zrd_nI (by omega), if_pos (show 1 < 3 by omega), if_neg (show ¬ nI 116 = 97 by decide), if_neg (show ¬ nI 116 = 98 by decide), if_neg (show ¬ nI 116 = 99 by decide), if_neg (show ¬ nI 116 = 100 by decide), if_neg (show ¬ nI 116 = 101 by decide), if_neg (show ¬ nI 116 = 102 by decide), if_neg (show ¬ nI 116 = 103 by decide), if_neg (show ¬ nI 116 = 104 by decide), if_neg (show ¬ nI 116 = 105 by decide), if_neg (show ¬ nI 116 = 106 by decide), if_neg (show ¬ nI 116 = 107 by decide), if_neg (show ¬ nI 116 = 108 by decide), if_neg (show ¬ nI 116 = 109 by decide), if_neg (show ¬ nI 116 = 110 by decide), if_neg (show ¬ nI 116 = 111 by decide), if_neg (show ¬ nI 116 = 112 by decide), if_neg (show ¬ nI 116 = 113 by decide), if_neg (show ¬ nI 116 = 114 by decide), if_neg (show ¬ nI 116 = 115 by decide), if_pos (show nI 116 = 116 from rfl)]
  by_cases hg : t 2 < 7
  · rw [show wTk t 9 a = some (wup1 (wup1 t 2 (t 2 + 1)) (72 + t 2) (a 0)) by unfold wTk; exact if_pos hg]
    refine ⟨(zput (zput M 8 (t 2) (nI (a 0))) 1 9 (nI (t 2 + 1))), ?_, fun i hi => by rw [zput_ne (by omega), zput_ne (by omega)], wv_9 hv hp hw hg⟩
    rw [e0, e54_1_25_183, e51_1_0, v2, if_pos (show nI (t 2) < 7 from nI_lt (b := 7) hg (by omega)), s5_8, zbV_some, zwr_nI (by omega) (by omega), zput_ne (show 1 ≠ 8 by omega), v2, nI_1, zbI_some, if_pos zfit_1]
  · rw [show wTk t 9 a = none by unfold wTk; exact if_neg hg]
    show zden (L + 1) 54 0 [some (.ref 1), some (.int (nI 116)), some (.ref 25), none, none] [] M = some (some (.int 0), M)
    rw [e0, e54_1_25_183, e51_1_0, v2, if_neg (show ¬ nI (t 2) < 7 from nI_nlt (b := 7) (by omega) (by omega)), zbI_some, if_pos zfit_0]
theorem s54_1_10 (hv : zTv M 1 t) (hp : zTp t) (hw : wall 10 a (wNm 10) 0 = true) (h25 : ∀ j, j < 3 → M 25 j = nI (a j)) : match wTk t 10 a with
    | none => zden (L + 1) 54 0 [some (.ref 1), some (.int (nI 101)), some (.ref 25), none, none] [] M = some (some (.int 0), M)
    | some u => ∃ P, zden (L + 1) 54 0 [some (.ref 1), some (.int (nI 101)), some (.ref 25), none, none] [] M = some (some (.int 1), P) ∧ (∀ i, (i < 1 ∨ 11 < i) → P i = M i) ∧ zTv P 1 u := by
  obtain ⟨⟨g0, g1, g2, g3⟩, -⟩ := id hp
  have hw' : (wbd 10 0 (a 0) && (wbd 10 1 (a 1) && (wbd 10 2 (a 2) && true))) = true := hw
  simp only [Bool.and_eq_true] at hw'
  have b0 : 0 ≤ a 0 ∧ a 0 ≤ 6 := wbd_iff.mp hw'.1
  have b1 : 0 ≤ a 1 ∧ a 1 ≤ 6 := wbd_iff.mp hw'.2.1
  have b2 : 1 ≤ a 2 ∧ a 2 ≤ 60 := wbd_iff.mp hw'.2.2.1
  have n0 : M 25 0 = nI (a 0) := h25 0 (by omega)
  have n1 : M 25 1 = nI (a 1) := h25 1 (by omega)
  have n2 : M 25 2 = nI (a 2) := h25 2 (by omega)
  have v0 : M 1 2 = nI (t 0) := hv.1 0 (by unfold wlv; omega)
  have v1 : M 1 6 = nI (t 1) := hv.1 1 (by unfold wlv; omega)
  have v2 : M 1 9 = nI (t 2) := hv.1 2 (by unfold wlv; omega)
  have v3 : M 1 13 = nI (t 3) := hv.1 3 (by unfold wlv; omega)
  have e0 : zden (L + 1) 54 0 [some (.ref 1), some (.int (nI 101)), some (.ref 25), none, none] [] M = zden (L + 1) 54 189 [some (.ref 1), some (.int (nI 101)), some (.ref 25), some (.int (nI (a 0))), some (.int (M 25 1))] [] M := by
    rw [e54_1_25_0, show (0 : Int32) = nI 0 from rfl, s4_25, zbI_some, zrd_nI (by omega), if_pos (show 0 < 3 by omega), n0, show (1 : Int32) = nI 1 from rfl, s4_25, zbI_some, zrd_nI (by omega), if_pos (show 1 < 3 by omega), if_neg (show ¬ nI 101 = 97 by decide), if_neg (show ¬ nI 101 = 98 by decide), if_neg (show ¬ nI 101 = 99 by decide), if_neg (show ¬ nI 101 = 100 by decide), if_pos (show nI 101 = 101 from rfl)]
  by_cases hg : t 3 < 10 ∧ a 0 < t 2 ∧ a 1 < t 2 ∧ a 0 ≠ a 1
  · rw [show wTk t 10 a = some (wup1 (wup1 (wup1 (wup1 t 3 (t 3 + 1)) (86 + t 3) (a 0)) (96 + t 3) (a 1)) (106 + t 3) (a 2)) by unfold wTk; exact if_pos hg]
    refine ⟨(zput (zput (zput (zput M 9 (t 3) (nI (a 0))) 10 (t 3) (nI (a 1))) 11 (t 3) (nI (a 2))) 1 13 (nI (t 3 + 1))), ?_, fun i hi => by rw [zput_ne (by omega), zput_ne (by omega), zput_ne (by omega), zput_ne (by omega)], wv_10 hv hp hw hg⟩
    rw [e0, e54_1_25_189, n1, show (2 : Int32) = nI 2 from rfl, s4_25, zbI_some, zrd_nI (by omega), if_pos (show 2 < 3 by omega), n2, e52_1_0, v3, if_pos (show nI (t 3) < 10 from nI_lt (b := 10) hg.1 (by omega)), v2, if_pos (nI_lt hg.2.1 (by omega)), if_pos (nI_lt hg.2.2.1 (by omega)), if_neg (fun q => hg.2.2.2 ((nI_eq (by omega) (by omega)).mp q)), s5_9, zbV_some, zwr_nI (by omega) (by omega), zput_ne (show 1 ≠ 9 by omega), v3, s5_10, zbV_some, zwr_nI (by omega) (by omega), zput_ne (show 1 ≠ 10 by omega), zput_ne (show 1 ≠ 9 by omega), v3, s5_11, zbV_some, zwr_nI (by omega) (by omega), zput_ne (show 1 ≠ 11 by omega), zput_ne (show 1 ≠ 10 by omega), zput_ne (show 1 ≠ 9 by omega), v3, nI_1, zbI_some, if_pos zfit_1]
  · rw [show wTk t 10 a = none by unfold wTk; exact if_neg hg]
    show zden (L + 1) 54 0 [some (.ref 1), some (.int (nI 101)), some (.ref 25), none, none] [] M = some (some (.int 0), M)
    by_cases h1 : t 3 < 10
    · by_cases h2 : a 0 < t 2
      · by_cases h3 : a 1 < t 2
        · have h4 : a 0 = a 1 := by omega
          rw [e0, e54_1_25_189, n1, show (2 : Int32) = nI 2 from rfl, s4_25, zbI_some, zrd_nI (by omega), if_pos (show 2 < 3 by omega), n2, e52_1_0, v3, if_pos (show nI (t 3) < 10 from nI_lt (b := 10) h1 (by omega)), v2, if_pos (nI_lt h2 (by omega)), if_pos (nI_lt h3 (by omega)), if_pos (by rw [h4]), e52_1_30, zbI_some, if_pos zfit_0]
        · rw [e0, e54_1_25_189, n1, show (2 : Int32) = nI 2 from rfl, s4_25, zbI_some, zrd_nI (by omega), if_pos (show 2 < 3 by omega), n2, e52_1_0, v3, if_pos (show nI (t 3) < 10 from nI_lt (b := 10) h1 (by omega)), v2, if_pos (nI_lt h2 (by omega)), if_neg (nI_nlt (by omega) (by omega)), e52_1_30, zbI_some, if_pos zfit_0]
      · rw [e0, e54_1_25_189, n1, show (2 : Int32) = nI 2 from rfl, s4_25, zbI_some, zrd_nI (by omega), if_pos (show 2 < 3 by omega), n2, e52_1_0, v3, if_pos (show nI (t 3) < 10 from nI_lt (b := 10) h1 (by omega)), v2, if_neg (nI_nlt (by omega) (by omega)), e52_1_30, zbI_some, if_pos zfit_0]
    · rw [e0, e54_1_25_189, n1, show (2 : Int32) = nI 2 from rfl, s4_25, zbI_some, zrd_nI (by omega), if_pos (show 2 < 3 by omega), n2, e52_1_0, v3, if_neg (show ¬ nI (t 3) < 10 from nI_nlt (b := 10) (by omega) (by omega)), e52_1_30, zbI_some, if_pos zfit_0]
theorem s54_1_11 (hv : zTv M 1 t) (hp : zTp t) (hw : wall 11 a (wNm 11) 0 = true) (h25 : ∀ j, j < 1 → M 25 j = nI (a j)) : match wTk t 11 a with
    | none => zden (L + 1) 54 0 [some (.ref 1), some (.int (nI 105)), some (.ref 25), none, none] [] M = some (some (.int 0), M)
    | some u => ∃ P, zden (L + 1) 54 0 [some (.ref 1), some (.int (nI 105)), some (.ref 25), none, none] [] M = some (some (.int 1), P) ∧ (∀ i, (i < 1 ∨ 11 < i) → P i = M i) ∧ zTv P 1 u := by
  obtain ⟨⟨g0, g1, g2, g3⟩, -⟩ := id hp
  have hw' : (wbd 11 0 (a 0) && true) = true := hw
  simp only [Bool.and_eq_true] at hw'
  have b0 : 0 ≤ a 0 ∧ a 0 ≤ 6 := wbd_iff.mp hw'.1
  have n0 : M 25 0 = nI (a 0) := h25 0 (by omega)
  have v0 : M 1 2 = nI (t 0) := hv.1 0 (by unfold wlv; omega)
  have v1 : M 1 6 = nI (t 1) := hv.1 1 (by unfold wlv; omega)
  have v2 : M 1 9 = nI (t 2) := hv.1 2 (by unfold wlv; omega)
  have v3 : M 1 13 = nI (t 3) := hv.1 3 (by unfold wlv; omega)
  have e0 : zden (L + 1) 54 0 [some (.ref 1), some (.int (nI 105)), some (.ref 25), none, none] [] M = zden (L + 1) 54 202 [some (.ref 1), some (.int (nI 105)), some (.ref 25), some (.int (nI (a 0))), some (.int (M 25 1))] [] M := by
    rw [e54_1_25_0, show (0 : Int32) = nI 0 from rfl, s4_25, zbI_some, zrd_nI (by omega), if_pos (show 0 < 3 by omega), n0, show (1 : Int32) = nI 1 from rfl, s4_25, zbI_some, zrd_nI (by omega), if_pos (show 1 < 3 by omega), if_neg (show ¬ nI 105 = 97 by decide), if_neg (show ¬ nI 105 = 98 by decide), if_neg (show ¬ nI 105 = 99 by decide), if_neg (show ¬ nI 105 = 100 by decide), if_neg (show ¬ nI 105 = 101 by decide), if_neg (show ¬ nI 105 = 102 by decide), if_neg (show ¬ nI 105 = 103 by decide), if_neg (show ¬ nI 105 = 104 by decide), if_pos (show nI 105 = 105 from rfl)]
  by_cases hg : a 0 < t 2
  · rw [show wTk t 11 a = some (wup1 t (79 + a 0) 1) by unfold wTk; exact if_pos hg]
    refine ⟨(zput M 1 14 (M 1 14 ||| (1 <<< (nI (a 0) &&& 31)))), ?_, fun i hi => by rw [zput_ne (by omega)], wv_11 hv hp hg⟩
    rw [e0, e54_1_25_202, e53_1_0, v2, if_pos (nI_lt hg (by omega)), zbI_some, if_pos zfit_1]
  · rw [show wTk t 11 a = none by unfold wTk; exact if_neg hg]
    show zden (L + 1) 54 0 [some (.ref 1), some (.int (nI 105)), some (.ref 25), none, none] [] M = some (some (.int 0), M)
    rw [e0, e54_1_25_202, e53_1_0, v2, if_neg (nI_nlt (by omega) (by omega)), zbI_some, if_pos zfit_0]
theorem s54_1 {kd : Nat} (hkd : kd < 12) (hv : zTv M 1 t) (hp : zTp t) (hw : wall kd a (wNm kd) 0 = true) (h25 : ∀ j, j < wNm kd → M 25 j = nI (a j)) : match wTk t kd a with
    | none => zden (L + 1) 54 0 [some (.ref 1), some (.int (nI (wLt kd))), some (.ref 25), none, none] [] M = some (some (.int 0), M)
    | some u => ∃ P, zden (L + 1) 54 0 [some (.ref 1), some (.int (nI (wLt kd))), some (.ref 25), none, none] [] M = some (some (.int 1), P) ∧ (∀ i, (i < 1 ∨ 11 < i) → P i = M i) ∧ zTv P 1 u := by
  have h12 : kd = 0 ∨ kd = 1 ∨ kd = 2 ∨ kd = 3 ∨ kd = 4 ∨ kd = 5 ∨ kd = 6 ∨ kd = 7 ∨ kd = 8 ∨ kd = 9 ∨ kd = 10 ∨ kd = 11 := by omega
  rcases h12 with rfl | rfl | rfl | rfl | rfl | rfl | rfl | rfl | rfl | rfl | rfl | rfl
  · exact s54_1_0 hv hp hw h25
  · exact s54_1_1 hv hp hw h25
  · exact s54_1_2 hv hp hw h25
  · exact s54_1_3 hv hp hw h25
  · exact s54_1_4 hv hp hw h25
  · exact s54_1_5 hv hp hw h25
  · exact s54_1_6 hv hp hw h25
  · exact s54_1_7 hv hp hw h25
  · exact s54_1_8 hv hp hw h25
  · exact s54_1_9 hv hp hw h25
  · exact s54_1_10 hv hp hw h25
  · exact s54_1_11 hv hp hw h25
theorem s54_12_0 (hv : zTv M 12 t) (hp : zTp t) (hw : wall 0 a (wNm 0) 0 = true) (h25 : ∀ j, j < 2 → M 25 j = nI (a j)) : match wTk t 0 a with
    | none => zden (L + 1) 54 0 [some (.ref 12), some (.int (nI 115)), some (.ref 25), none, none] [] M = some (some (.int 0), M)
    | some u => ∃ P, zden (L + 1) 54 0 [some (.ref 12), some (.int (nI 115)), some (.ref 25), none, none] [] M = some (some (.int 1), P) ∧ (∀ i, (i < 12 ∨ 22 < i) → P i = M i) ∧ zTv P 12 u := by
  obtain ⟨⟨g0, g1, g2, g3⟩, -⟩ := id hp
  have hw' : (wbd 0 0 (a 0) && (wbd 0 1 (a 1) && true)) = true := hw
  simp only [Bool.and_eq_true] at hw'
  have b0 : 1 ≤ a 0 ∧ a 0 ≤ 30 := wbd_iff.mp hw'.1
  have b1 : 10 ≤ a 1 ∧ a 1 ≤ 60 := wbd_iff.mp hw'.2.1
  have n0 : M 25 0 = nI (a 0) := h25 0 (by omega)
  have n1 : M 25 1 = nI (a 1) := h25 1 (by omega)
  have v0 : M 12 2 = nI (t 0) := hv.1 0 (by unfold wlv; omega)
  have v1 : M 12 6 = nI (t 1) := hv.1 1 (by unfold wlv; omega)
  have v2 : M 12 9 = nI (t 2) := hv.1 2 (by unfold wlv; omega)
  have v3 : M 12 13 = nI (t 3) := hv.1 3 (by unfold wlv; omega)
  have e0 : zden (L + 1) 54 0 [some (.ref 12), some (.int (nI 115)), some (.ref 25), none, none] [] M = zden (L + 1) 54 108 [some (.ref 12), some (.int (nI 115)), some (.ref 25), some (.int (nI (a 0))), some (.int (M 25 1))] [] M := by
    rw [e54_12_25_0, show (0 : Int32) = nI 0 from rfl, s4_25, zbI_some, zrd_nI (by omega), if_pos (show 0 < 3 by omega), n0, show (1 : Int32) = nI 1 from rfl, s4_25, zbI_some, zrd_nI (by omega), if_pos (show 1 < 3 by omega), if_neg (show ¬ nI 115 = 97 by decide), if_neg (show ¬ nI 115 = 98 by decide), if_neg (show ¬ nI 115 = 99 by decide), if_neg (show ¬ nI 115 = 100 by decide), if_neg (show ¬ nI 115 = 101 by decide), if_neg (show ¬ nI 115 = 102 by decide), if_neg (show ¬ nI 115 = 103 by decide), if_neg (show ¬ nI 115 = 104 by decide), if_neg (show ¬ nI 115 = 105 by decide), if_neg (show ¬ nI 115 = 106 by decide), if_neg (show ¬ nI 115 = 107 by decide), if_neg (show ¬ nI 115 = 108 by decide), if_neg (show ¬ nI 115 = 109 by decide), if_neg (show ¬ nI 115 = 110 by decide), if_neg (show ¬ nI 115 = 111 by decide), if_neg (show ¬ nI 115 = 112 by decide), if_neg (show ¬ nI 115 = 113 by decide), if_neg (show ¬ nI 115 = 114 by decide), if_pos (show nI 115 = 115 from rfl)]
  by_cases hg : t 0 < 12
  · rw [show wTk t 0 a = some (wup1 (wup1 (wup1 t 0 (t 0 + 1)) (16 + t 0) (a 0)) (28 + t 0) (a 1)) by unfold wTk; exact if_pos hg]
    refine ⟨(zput (zput (zput M 13 (t 0) (nI (a 0))) 14 (t 0) (nI (a 1))) 12 2 (nI (t 0 + 1))), ?_, fun i hi => by rw [zput_ne (by omega), zput_ne (by omega), zput_ne (by omega)], wv_0 hv hp hw hg⟩
    rw [e0, e54_12_25_108, n1, e47_12_0, v0, if_pos (show nI (t 0) < 12 from nI_lt (b := 12) hg (by omega)), s5_13, zbV_some, zwr_nI (by omega) (by omega), zput_ne (show 12 ≠ 13 by omega), v0, s5_14, zbV_some, zwr_nI (by omega) (by omega), zput_ne (show 12 ≠ 14 by omega), zput_ne (show 12 ≠ 13 by omega), v0, nI_1, zbI_some, if_pos zfit_1]
  · rw [show wTk t 0 a = none by unfold wTk; exact if_neg hg]
    show zden (L + 1) 54 0 [some (.ref 12), some (.int (nI 115)), some (.ref 25), none, none] [] M = some (some (.int 0), M)
    rw [e0, e54_12_25_108, n1, e47_12_0, v0, if_neg (show ¬ nI (t 0) < 12 from nI_nlt (b := 12) (by omega) (by omega)), zbI_some, if_pos zfit_0]
theorem s54_12_1 (hv : zTv M 12 t) (hp : zTp t) (hw : wall 1 a (wNm 1) 0 = true) (h25 : ∀ j, j < 3 → M 25 j = nI (a j)) : match wTk t 1 a with
    | none => zden (L + 1) 54 0 [some (.ref 12), some (.int (nI 112)), some (.ref 25), none, none] [] M = some (some (.int 0), M)
    | some u => ∃ P, zden (L + 1) 54 0 [some (.ref 12), some (.int (nI 112)), some (.ref 25), none, none] [] M = some (some (.int 1), P) ∧ (∀ i, (i < 12 ∨ 22 < i) → P i = M i) ∧ zTv P 12 u := by
  obtain ⟨⟨g0, g1, g2, g3⟩, -⟩ := id hp
  have hw' : (wbd 1 0 (a 0) && (wbd 1 1 (a 1) && (wbd 1 2 (a 2) && true))) = true := hw
  simp only [Bool.and_eq_true] at hw'
  have b0 : 3 ≤ a 0 ∧ a 0 ≤ 40 := wbd_iff.mp hw'.1
  have b1 : 1 ≤ a 1 ∧ a 1 ≤ 60 := wbd_iff.mp hw'.2.1
  have b2 : 1 ≤ a 2 ∧ a 2 ≤ 99 := wbd_iff.mp hw'.2.2.1
  have n0 : M 25 0 = nI (a 0) := h25 0 (by omega)
  have n1 : M 25 1 = nI (a 1) := h25 1 (by omega)
  have n2 : M 25 2 = nI (a 2) := h25 2 (by omega)
  have v0 : M 12 2 = nI (t 0) := hv.1 0 (by unfold wlv; omega)
  have v1 : M 12 6 = nI (t 1) := hv.1 1 (by unfold wlv; omega)
  have v2 : M 12 9 = nI (t 2) := hv.1 2 (by unfold wlv; omega)
  have v3 : M 12 13 = nI (t 3) := hv.1 3 (by unfold wlv; omega)
  have e0 : zden (L + 1) 54 0 [some (.ref 12), some (.int (nI 112)), some (.ref 25), none, none] [] M = zden (L + 1) 54 116 [some (.ref 12), some (.int (nI 112)), some (.ref 25), some (.int (nI (a 0))), some (.int (M 25 1))] [] M := by
    rw [e54_12_25_0, show (0 : Int32) = nI 0 from rfl, s4_25, zbI_some, zrd_nI (by omega), if_pos (show 0 < 3 by omega), n0, show (1 : Int32) = nI 1 from rfl, s4_25, zbI_some, zrd_nI (by omega), if_pos (show 1 < 3 by omega), if_neg (show ¬ nI 112 = 97 by decide), if_neg (show ¬ nI 112 = 98 by decide), if_neg (show ¬ nI 112 = 99 by decide), if_neg (show ¬ nI 112 = 100 by decide), if_neg (show ¬ nI 112 = 101 by decide), if_neg (show ¬ nI 112 = 102 by decide), if_neg (show ¬ nI 112 = 103 by decide), if_neg (show ¬ nI 112 = 104 by decide), if_neg (show ¬ nI 112 = 105 by decide), if_neg (show ¬ nI 112 = 106 by decide), if_neg (show ¬ nI 112 = 107 by decide), if_neg (show ¬ nI 112 = 108 by decide), if_neg (show ¬ nI 112 = 109 by decide), if_neg (show ¬ nI 112 = 110 by decide), if_neg (show ¬ nI 112 = 111 by decide), if_pos (show nI 112 = 112 from rfl)]
  refine ⟨(zput (zput (zput M 15 0 (nI (a 0))) 15 1 (nI (a 1))) 15 2 (nI (a 2))), ?_, fun i hi => by rw [zput_ne (by omega), zput_ne (by omega), zput_ne (by omega)], wv_1 hv hp hw⟩
  rw [e0, e54_12_25_116, e48_12_25_0, show (3 : Int32) = nI 3 from rfl, show (0 : Int32) = nI 0 from rfl]
  rw [e48_12_25_3, if_pos (show nI 0 < nI 3 by decide), s4_25, zbI_some, zrd_nI (by omega), if_pos (show 0 < 3 by omega), n0, show nI 0 + nI 0 = nI 0 from rfl, s5_15, zbV_some, zwr_nI (by omega) (by omega), show nI 0 + 1 = nI 1 from rfl, e48_12_25_3, if_pos (show nI 1 < nI 3 by decide), s4_25, zbI_some, zrd_nI (by omega), if_pos (show 1 < 3 by omega), zput_ne (by omega), n1, show nI 0 + nI 1 = nI 1 from rfl, s5_15, zbV_some, zwr_nI (by omega) (by omega), show nI 1 + 1 = nI 2 from rfl, e48_12_25_3, if_pos (show nI 2 < nI 3 by decide), s4_25, zbI_some, zrd_nI (by omega), if_pos (show 2 < 3 by omega), zput_ne (by omega), zput_ne (by omega), n2, show nI 0 + nI 2 = nI 2 from rfl, s5_15, zbV_some, zwr_nI (by omega) (by omega), show nI 2 + 1 = nI 3 from rfl, e48_12_25_3, if_neg (show ¬ nI 3 < nI 3 by decide), zbI_some, if_pos zfit_1]
theorem s54_12_2 (hv : zTv M 12 t) (hp : zTp t) (hw : wall 2 a (wNm 2) 0 = true) (h25 : ∀ j, j < 1 → M 25 j = nI (a j)) : match wTk t 2 a with
    | none => zden (L + 1) 54 0 [some (.ref 12), some (.int (nI 98)), some (.ref 25), none, none] [] M = some (some (.int 0), M)
    | some u => ∃ P, zden (L + 1) 54 0 [some (.ref 12), some (.int (nI 98)), some (.ref 25), none, none] [] M = some (some (.int 1), P) ∧ (∀ i, (i < 12 ∨ 22 < i) → P i = M i) ∧ zTv P 12 u := by
  obtain ⟨⟨g0, g1, g2, g3⟩, -⟩ := id hp
  have hw' : (wbd 2 0 (a 0) && true) = true := hw
  simp only [Bool.and_eq_true] at hw'
  have b0 : 0 ≤ a 0 ∧ a 0 ≤ 40 := wbd_iff.mp hw'.1
  have n0 : M 25 0 = nI (a 0) := h25 0 (by omega)
  have v0 : M 12 2 = nI (t 0) := hv.1 0 (by unfold wlv; omega)
  have v1 : M 12 6 = nI (t 1) := hv.1 1 (by unfold wlv; omega)
  have v2 : M 12 9 = nI (t 2) := hv.1 2 (by unfold wlv; omega)
  have v3 : M 12 13 = nI (t 3) := hv.1 3 (by unfold wlv; omega)
  have e0 : zden (L + 1) 54 0 [some (.ref 12), some (.int (nI 98)), some (.ref 25), none, none] [] M = zden (L + 1) 54 124 [some (.ref 12), some (.int (nI 98)), some (.ref 25), some (.int (nI (a 0))), some (.int (M 25 1))] [] M := by
    rw [e54_12_25_0, show (0 : Int32) = nI 0 from rfl, s4_25, zbI_some, zrd_nI (by omega), if_pos (show 0 < 3 by omega), n0, show (1 : Int32) = nI 1 from rfl, s4_25, zbI_some, zrd_nI (by omega), if_pos (show 1 < 3 by omega), if_neg (show ¬ nI 98 = 97 by decide), if_pos (show nI 98 = 98 from rfl)]
  refine ⟨(zput M 15 3 (nI (a 0))), ?_, fun i hi => by rw [zput_ne (by omega)], wv_2 hv hp hw⟩
  rw [e0, e54_12_25_124, e48_12_25_0, show (3 : Int32) = nI 3 from rfl, show (1 : Int32) = nI 1 from rfl, show (0 : Int32) = nI 0 from rfl]
  rw [e48_12_25_3, if_pos (show nI 0 < nI 1 by decide), s4_25, zbI_some, zrd_nI (by omega), if_pos (show 0 < 3 by omega), n0, show nI 3 + nI 0 = nI 3 from rfl, s5_15, zbV_some, zwr_nI (by omega) (by omega), show nI 0 + 1 = nI 1 from rfl, e48_12_25_3, if_neg (show ¬ nI 1 < nI 1 by decide), zbI_some, if_pos zfit_1]
  rfl
theorem s54_12_3 (hv : zTv M 12 t) (hp : zTp t) (hw : wall 3 a (wNm 3) 0 = true) (h25 : ∀ j, j < 3 → M 25 j = nI (a j)) : match wTk t 3 a with
    | none => zden (L + 1) 54 0 [some (.ref 12), some (.int (nI 107)), some (.ref 25), none, none] [] M = some (some (.int 0), M)
    | some u => ∃ P, zden (L + 1) 54 0 [some (.ref 12), some (.int (nI 107)), some (.ref 25), none, none] [] M = some (some (.int 1), P) ∧ (∀ i, (i < 12 ∨ 22 < i) → P i = M i) ∧ zTv P 12 u := by
  obtain ⟨⟨g0, g1, g2, g3⟩, -⟩ := id hp
  have hw' : (wbd 3 0 (a 0) && (wbd 3 1 (a 1) && (wbd 3 2 (a 2) && true))) = true := hw
  simp only [Bool.and_eq_true] at hw'
  have b0 : 0 ≤ a 0 ∧ a 0 ≤ 40 := wbd_iff.mp hw'.1
  have b1 : 0 ≤ a 1 ∧ a 1 ≤ 99 := wbd_iff.mp hw'.2.1
  have b2 : 0 ≤ a 2 ∧ a 2 ≤ 99 := wbd_iff.mp hw'.2.2.1
  have n0 : M 25 0 = nI (a 0) := h25 0 (by omega)
  have n1 : M 25 1 = nI (a 1) := h25 1 (by omega)
  have n2 : M 25 2 = nI (a 2) := h25 2 (by omega)
  have v0 : M 12 2 = nI (t 0) := hv.1 0 (by unfold wlv; omega)
  have v1 : M 12 6 = nI (t 1) := hv.1 1 (by unfold wlv; omega)
  have v2 : M 12 9 = nI (t 2) := hv.1 2 (by unfold wlv; omega)
  have v3 : M 12 13 = nI (t 3) := hv.1 3 (by unfold wlv; omega)
  have e0 : zden (L + 1) 54 0 [some (.ref 12), some (.int (nI 107)), some (.ref 25), none, none] [] M = zden (L + 1) 54 132 [some (.ref 12), some (.int (nI 107)), some (.ref 25), some (.int (nI (a 0))), some (.int (M 25 1))] [] M := by
    rw [e54_12_25_0, show (0 : Int32) = nI 0 from rfl, s4_25, zbI_some, zrd_nI (by omega), if_pos (show 0 < 3 by omega), n0, show (1 : Int32) = nI 1 from rfl, s4_25, zbI_some, zrd_nI (by omega), if_pos (show 1 < 3 by omega), if_neg (show ¬ nI 107 = 97 by decide), if_neg (show ¬ nI 107 = 98 by decide), if_neg (show ¬ nI 107 = 99 by decide), if_neg (show ¬ nI 107 = 100 by decide), if_neg (show ¬ nI 107 = 101 by decide), if_neg (show ¬ nI 107 = 102 by decide), if_neg (show ¬ nI 107 = 103 by decide), if_neg (show ¬ nI 107 = 104 by decide), if_neg (show ¬ nI 107 = 105 by decide), if_neg (show ¬ nI 107 = 106 by decide), if_pos (show nI 107 = 107 from rfl)]
  refine ⟨(zput (zput (zput M 15 4 (nI (a 0))) 15 5 (nI (a 1))) 15 6 (nI (a 2))), ?_, fun i hi => by rw [zput_ne (by omega), zput_ne (by omega), zput_ne (by omega)], wv_3 hv hp hw⟩
  rw [e0, e54_12_25_132, e48_12_25_0, show (4 : Int32) = nI 4 from rfl, show (3 : Int32) = nI 3 from rfl, show (0 : Int32) = nI 0 from rfl]
  rw [e48_12_25_3, if_pos (show nI 0 < nI 3 by decide), s4_25, zbI_some, zrd_nI (by omega), if_pos (show 0 < 3 by omega), n0, show nI 4 + nI 0 = nI 4 from rfl, s5_15, zbV_some, zwr_nI (by omega) (by omega), show nI 0 + 1 = nI 1 from rfl, e48_12_25_3, if_pos (show nI 1 < nI 3 by decide), s4_25, zbI_some, zrd_nI (by omega), if_pos (show 1 < 3 by omega), zput_ne (by omega), n1, show nI 4 + nI 1 = nI 5 from rfl, s5_15, zbV_some, zwr_nI (by omega) (by omega), show nI 1 + 1 = nI 2 from rfl, e48_12_25_3, if_pos (show nI 2 < nI 3 by decide), s4_25, zbI_some, zrd_nI (by omega), if_pos (show 2 < 3 by omega), zput_ne (by omega), zput_ne (by omega), n2, show nI 4 + nI 2 = nI 6 from rfl, s5_15, zbV_some, zwr_nI (by omega) (by omega), show nI 2 + 1 = nI 3 from rfl, e48_12_25_3, if_neg (show ¬ nI 3 < nI 3 by decide), zbI_some, if_pos zfit_1]
theorem s54_12_4 (hv : zTv M 12 t) (hp : zTp t) (hw : wall 4 a (wNm 4) 0 = true) (h25 : ∀ j, j < 2 → M 25 j = nI (a j)) : match wTk t 4 a with
    | none => zden (L + 1) 54 0 [some (.ref 12), some (.int (nI 97)), some (.ref 25), none, none] [] M = some (some (.int 0), M)
    | some u => ∃ P, zden (L + 1) 54 0 [some (.ref 12), some (.int (nI 97)), some (.ref 25), none, none] [] M = some (some (.int 1), P) ∧ (∀ i, (i < 12 ∨ 22 < i) → P i = M i) ∧ zTv P 12 u := by
  obtain ⟨⟨g0, g1, g2, g3⟩, -⟩ := id hp
  have hw' : (wbd 4 0 (a 0) && (wbd 4 1 (a 1) && true)) = true := hw
  simp only [Bool.and_eq_true] at hw'
  have b0 : 1 ≤ a 0 ∧ a 0 ≤ 99 := wbd_iff.mp hw'.1
  have b1 : 1 ≤ a 1 ∧ a 1 ≤ 99 := wbd_iff.mp hw'.2.1
  have n0 : M 25 0 = nI (a 0) := h25 0 (by omega)
  have n1 : M 25 1 = nI (a 1) := h25 1 (by omega)
  have v0 : M 12 2 = nI (t 0) := hv.1 0 (by unfold wlv; omega)
  have v1 : M 12 6 = nI (t 1) := hv.1 1 (by unfold wlv; omega)
  have v2 : M 12 9 = nI (t 2) := hv.1 2 (by unfold wlv; omega)
  have v3 : M 12 13 = nI (t 3) := hv.1 3 (by unfold wlv; omega)
  have e0 : zden (L + 1) 54 0 [some (.ref 12), some (.int (nI 97)), some (.ref 25), none, none] [] M = zden (L + 1) 54 140 [some (.ref 12), some (.int (nI 97)), some (.ref 25), some (.int (nI (a 0))), some (.int (M 25 1))] [] M := by
    rw [e54_12_25_0, show (0 : Int32) = nI 0 from rfl, s4_25, zbI_some, zrd_nI (by omega), if_pos (show 0 < 3 by omega), n0, show (1 : Int32) = nI 1 from rfl, s4_25, zbI_some, zrd_nI (by omega), if_pos (show 1 < 3 by omega), if_pos (show nI 97 = 97 from rfl)]
  refine ⟨(zput (zput M 15 7 (nI (a 0))) 15 8 (nI (a 1))), ?_, fun i hi => by rw [zput_ne (by omega), zput_ne (by omega)], wv_4 hv hp hw⟩
  rw [e0, e54_12_25_140, e48_12_25_0, show (7 : Int32) = nI 7 from rfl, show (2 : Int32) = nI 2 from rfl, show (0 : Int32) = nI 0 from rfl]
  rw [e48_12_25_3, if_pos (show nI 0 < nI 2 by decide), s4_25, zbI_some, zrd_nI (by omega), if_pos (show 0 < 3 by omega), n0, show nI 7 + nI 0 = nI 7 from rfl, s5_15, zbV_some, zwr_nI (by omega) (by omega), show nI 0 + 1 = nI 1 from rfl, e48_12_25_3, if_pos (show nI 1 < nI 2 by decide), s4_25, zbI_some, zrd_nI (by omega), if_pos (show 1 < 3 by omega), zput_ne (by omega), n1, show nI 7 + nI 1 = nI 8 from rfl, s5_15, zbV_some, zwr_nI (by omega) (by omega), show nI 1 + 1 = nI 2 from rfl, e48_12_25_3, if_neg (show ¬ nI 2 < nI 2 by decide), zbI_some, if_pos zfit_1]
theorem s54_12_5 (hv : zTv M 12 t) (hp : zTp t) (hw : wall 5 a (wNm 5) 0 = true) (h25 : ∀ j, j < 2 → M 25 j = nI (a j)) : match wTk t 5 a with
    | none => zden (L + 1) 54 0 [some (.ref 12), some (.int (nI 104)), some (.ref 25), none, none] [] M = some (some (.int 0), M)
    | some u => ∃ P, zden (L + 1) 54 0 [some (.ref 12), some (.int (nI 104)), some (.ref 25), none, none] [] M = some (some (.int 1), P) ∧ (∀ i, (i < 12 ∨ 22 < i) → P i = M i) ∧ zTv P 12 u := by
  obtain ⟨⟨g0, g1, g2, g3⟩, -⟩ := id hp
  have hw' : (wbd 5 0 (a 0) && (wbd 5 1 (a 1) && true)) = true := hw
  simp only [Bool.and_eq_true] at hw'
  have b0 : 1 ≤ a 0 ∧ a 0 ≤ 99 := wbd_iff.mp hw'.1
  have b1 : 0 ≤ a 1 ∧ a 1 ≤ 10 := wbd_iff.mp hw'.2.1
  have n0 : M 25 0 = nI (a 0) := h25 0 (by omega)
  have n1 : M 25 1 = nI (a 1) := h25 1 (by omega)
  have v0 : M 12 2 = nI (t 0) := hv.1 0 (by unfold wlv; omega)
  have v1 : M 12 6 = nI (t 1) := hv.1 1 (by unfold wlv; omega)
  have v2 : M 12 9 = nI (t 2) := hv.1 2 (by unfold wlv; omega)
  have v3 : M 12 13 = nI (t 3) := hv.1 3 (by unfold wlv; omega)
  have e0 : zden (L + 1) 54 0 [some (.ref 12), some (.int (nI 104)), some (.ref 25), none, none] [] M = zden (L + 1) 54 149 [some (.ref 12), some (.int (nI 104)), some (.ref 25), some (.int (nI (a 0))), some (.int (M 25 1))] [] M := by
    rw [e54_12_25_0, show (0 : Int32) = nI 0 from rfl, s4_25, zbI_some, zrd_nI (by omega), if_pos (show 0 < 3 by omega), n0, show (1 : Int32) = nI 1 from rfl, s4_25, zbI_some, zrd_nI (by omega), if_pos (show 1 < 3 by omega), if_neg (show ¬ nI 104 = 97 by decide), if_neg (show ¬ nI 104 = 98 by decide), if_neg (show ¬ nI 104 = 99 by decide), if_neg (show ¬ nI 104 = 100 by decide), if_neg (show ¬ nI 104 = 101 by decide), if_neg (show ¬ nI 104 = 102 by decide), if_neg (show ¬ nI 104 = 103 by decide), if_pos (show nI 104 = 104 from rfl)]
  by_cases hg : t 1 < 4
  · rw [show wTk t 5 a = some (wup1 (wup1 (wup1 t 1 (t 1 + 1)) (40 + t 1) (a 0)) (44 + t 1) (a 1)) by unfold wTk; exact if_pos hg]
    refine ⟨(zput (zput (zput M 16 (t 1) (nI (a 0))) 17 (t 1) (nI (a 1))) 12 6 (nI (t 1 + 1))), ?_, fun i hi => by rw [zput_ne (by omega), zput_ne (by omega), zput_ne (by omega)], wv_5 hv hp hw hg⟩
    rw [e0, e54_12_25_149, n1, e49_12_0, v1, if_pos (show nI (t 1) < 4 from nI_lt (b := 4) hg (by omega)), s5_16, zbV_some, zwr_nI (by omega) (by omega), zput_ne (show 12 ≠ 16 by omega), v1, s5_17, zbV_some, zwr_nI (by omega) (by omega), zput_ne (show 12 ≠ 17 by omega), zput_ne (show 12 ≠ 16 by omega), v1, nI_1, zbI_some, if_pos zfit_1]
  · rw [show wTk t 5 a = none by unfold wTk; exact if_neg hg]
    show zden (L + 1) 54 0 [some (.ref 12), some (.int (nI 104)), some (.ref 25), none, none] [] M = some (some (.int 0), M)
    rw [e0, e54_12_25_149, n1, e49_12_0, v1, if_neg (show ¬ nI (t 1) < 4 from nI_nlt (b := 4) (by omega) (by omega)), zbI_some, if_pos zfit_0]
theorem s54_12_6 (hv : zTv M 12 t) (hp : zTp t) (hw : wall 6 a (wNm 6) 0 = true) (h25 : ∀ j, j < 2 → M 25 j = nI (a j)) : match wTk t 6 a with
    | none => zden (L + 1) 54 0 [some (.ref 12), some (.int (nI 110)), some (.ref 25), none, none] [] M = some (some (.int 0), M)
    | some u => ∃ P, zden (L + 1) 54 0 [some (.ref 12), some (.int (nI 110)), some (.ref 25), none, none] [] M = some (some (.int 1), P) ∧ (∀ i, (i < 12 ∨ 22 < i) → P i = M i) ∧ zTv P 12 u := by
  obtain ⟨⟨g0, g1, g2, g3⟩, -⟩ := id hp
  have hw' : (wbd 6 0 (a 0) && (wbd 6 1 (a 1) && true)) = true := hw
  simp only [Bool.and_eq_true] at hw'
  have b0 : 0 ≤ a 0 ∧ a 0 ≤ 23 := wbd_iff.mp hw'.1
  have b1 : 0 ≤ a 1 ∧ a 1 ≤ 9 := wbd_iff.mp hw'.2.1
  have n0 : M 25 0 = nI (a 0) := h25 0 (by omega)
  have n1 : M 25 1 = nI (a 1) := h25 1 (by omega)
  have v0 : M 12 2 = nI (t 0) := hv.1 0 (by unfold wlv; omega)
  have v1 : M 12 6 = nI (t 1) := hv.1 1 (by unfold wlv; omega)
  have v2 : M 12 9 = nI (t 2) := hv.1 2 (by unfold wlv; omega)
  have v3 : M 12 13 = nI (t 3) := hv.1 3 (by unfold wlv; omega)
  have e0 : zden (L + 1) 54 0 [some (.ref 12), some (.int (nI 110)), some (.ref 25), none, none] [] M = zden (L + 1) 54 157 [some (.ref 12), some (.int (nI 110)), some (.ref 25), some (.int (nI (a 0))), some (.int (M 25 1))] [] M := by
    rw [e54_12_25_0, show (0 : Int32) = nI 0 from rfl, s4_25, zbI_some, zrd_nI (by omega), if_pos (show 0 < 3 by omega), n0, show (1 : Int32) = nI 1 from rfl, s4_25, zbI_some, zrd_nI (by omega), if_pos (show 1 < 3 by omega), if_neg (show ¬ nI 110 = 97 by decide), if_neg (show ¬ nI 110 = 98 by decide), if_neg (show ¬ nI 110 = 99 by decide), if_neg (show ¬ nI 110 = 100 by decide), if_neg (show ¬ nI 110 = 101 by decide), if_neg (show ¬ nI 110 = 102 by decide), if_neg (show ¬ nI 110 = 103 by decide), if_neg (show ¬ nI 110 = 104 by decide), if_neg (show ¬ nI 110 = 105 by decide), if_neg (show ¬ nI 110 = 106 by decide), if_neg (show ¬ nI 110 = 107 by decide), if_neg (show ¬ nI 110 = 108 by decide), if_neg (show ¬ nI 110 = 109 by decide), if_pos (show nI 110 = 110 from rfl)]
  refine ⟨(zput M 18 (a 0) (nI (a 1))), ?_, fun i hi => by rw [zput_ne (by omega)], wv_6 hv hp hw⟩
  rw [e0, e54_12_25_157, e50_12_0, n1, s5_18, zbV_some, zwr_nI (by omega) (by omega), zbI_some, if_pos zfit_1]
theorem s54_12_7 (hv : zTv M 12 t) (hp : zTp t) (hw : wall 7 a (wNm 7) 0 = true) (h25 : ∀ j, j < 2 → M 25 j = nI (a j)) : match wTk t 7 a with
    | none => zden (L + 1) 54 0 [some (.ref 12), some (.int (nI 113)), some (.ref 25), none, none] [] M = some (some (.int 0), M)
    | some u => ∃ P, zden (L + 1) 54 0 [some (.ref 12), some (.int (nI 113)), some (.ref 25), none, none] [] M = some (some (.int 1), P) ∧ (∀ i, (i < 12 ∨ 22 < i) → P i = M i) ∧ zTv P 12 u := by
  obtain ⟨⟨g0, g1, g2, g3⟩, -⟩ := id hp
  have hw' : (wbd 7 0 (a 0) && (wbd 7 1 (a 1) && true)) = true := hw
  simp only [Bool.and_eq_true] at hw'
  have b0 : 0 ≤ a 0 ∧ a 0 ≤ 99 := wbd_iff.mp hw'.1
  have b1 : 0 ≤ a 1 ∧ a 1 ≤ 99 := wbd_iff.mp hw'.2.1
  have n0 : M 25 0 = nI (a 0) := h25 0 (by omega)
  have n1 : M 25 1 = nI (a 1) := h25 1 (by omega)
  have v0 : M 12 2 = nI (t 0) := hv.1 0 (by unfold wlv; omega)
  have v1 : M 12 6 = nI (t 1) := hv.1 1 (by unfold wlv; omega)
  have v2 : M 12 9 = nI (t 2) := hv.1 2 (by unfold wlv; omega)
  have v3 : M 12 13 = nI (t 3) := hv.1 3 (by unfold wlv; omega)
  have e0 : zden (L + 1) 54 0 [some (.ref 12), some (.int (nI 113)), some (.ref 25), none, none] [] M = zden (L + 1) 54 165 [some (.ref 12), some (.int (nI 113)), some (.ref 25), some (.int (nI (a 0))), some (.int (M 25 1))] [] M := by
    rw [e54_12_25_0, show (0 : Int32) = nI 0 from rfl, s4_25, zbI_some, zrd_nI (by omega), if_pos (show 0 < 3 by omega), n0, show (1 : Int32) = nI 1 from rfl, s4_25, zbI_some, zrd_nI (by omega), if_pos (show 1 < 3 by omega), if_neg (show ¬ nI 113 = 97 by decide), if_neg (show ¬ nI 113 = 98 by decide), if_neg (show ¬ nI 113 = 99 by decide), if_neg (show ¬ nI 113 = 100 by decide), if_neg (show ¬ nI 113 = 101 by decide), if_neg (show ¬ nI 113 = 102 by decide), if_neg (show ¬ nI 113 = 103 by decide), if_neg (show ¬ nI 113 = 104 by decide), if_neg (show ¬ nI 113 = 105 by decide), if_neg (show ¬ nI 113 = 106 by decide), if_neg (show ¬ nI 113 = 107 by decide), if_neg (show ¬ nI 113 = 108 by decide), if_neg (show ¬ nI 113 = 109 by decide), if_neg (show ¬ nI 113 = 110 by decide), if_neg (show ¬ nI 113 = 111 by decide), if_neg (show ¬ nI 113 = 112 by decide), if_pos (show nI 113 = 113 from rfl)]
  refine ⟨(zput (zput M 15 9 (nI (a 0))) 15 10 (nI (a 1))), ?_, fun i hi => by rw [zput_ne (by omega), zput_ne (by omega)], wv_7 hv hp hw⟩
  rw [e0, e54_12_25_165, e48_12_25_0, show (9 : Int32) = nI 9 from rfl, show (2 : Int32) = nI 2 from rfl, show (0 : Int32) = nI 0 from rfl]
  rw [e48_12_25_3, if_pos (show nI 0 < nI 2 by decide), s4_25, zbI_some, zrd_nI (by omega), if_pos (show 0 < 3 by omega), n0, show nI 9 + nI 0 = nI 9 from rfl, s5_15, zbV_some, zwr_nI (by omega) (by omega), show nI 0 + 1 = nI 1 from rfl, e48_12_25_3, if_pos (show nI 1 < nI 2 by decide), s4_25, zbI_some, zrd_nI (by omega), if_pos (show 1 < 3 by omega), zput_ne (by omega), n1, show nI 9 + nI 1 = nI 10 from rfl, s5_15, zbV_some, zwr_nI (by omega) (by omega), show nI 1 + 1 = nI 2 from rfl, e48_12_25_3, if_neg (show ¬ nI 2 < nI 2 by decide), zbI_some, if_pos zfit_1]
theorem s54_12_8 (hv : zTv M 12 t) (hp : zTp t) (hw : wall 8 a (wNm 8) 0 = true) (h25 : ∀ j, j < 1 → M 25 j = nI (a j)) : match wTk t 8 a with
    | none => zden (L + 1) 54 0 [some (.ref 12), some (.int (nI 109)), some (.ref 25), none, none] [] M = some (some (.int 0), M)
    | some u => ∃ P, zden (L + 1) 54 0 [some (.ref 12), some (.int (nI 109)), some (.ref 25), none, none] [] M = some (some (.int 1), P) ∧ (∀ i, (i < 12 ∨ 22 < i) → P i = M i) ∧ zTv P 12 u := by
  obtain ⟨⟨g0, g1, g2, g3⟩, -⟩ := id hp
  have hw' : (wbd 8 0 (a 0) && true) = true := hw
  simp only [Bool.and_eq_true] at hw'
  have b0 : 1 ≤ a 0 ∧ a 0 ≤ 99 := wbd_iff.mp hw'.1
  have n0 : M 25 0 = nI (a 0) := h25 0 (by omega)
  have v0 : M 12 2 = nI (t 0) := hv.1 0 (by unfold wlv; omega)
  have v1 : M 12 6 = nI (t 1) := hv.1 1 (by unfold wlv; omega)
  have v2 : M 12 9 = nI (t 2) := hv.1 2 (by unfold wlv; omega)
  have v3 : M 12 13 = nI (t 3) := hv.1 3 (by unfold wlv; omega)
  have e0 : zden (L + 1) 54 0 [some (.ref 12), some (.int (nI 109)), some (.ref 25), none, none] [] M = zden (L + 1) 54 174 [some (.ref 12), some (.int (nI 109)), some (.ref 25), some (.int (nI (a 0))), some (.int (M 25 1))] [] M := by
    rw [e54_12_25_0, show (0 : Int32) = nI 0 from rfl, s4_25, zbI_some, zrd_nI (by omega), if_pos (show 0 < 3 by omega), n0, show (1 : Int32) = nI 1 from rfl, s4_25, zbI_some, zrd_nI (by omega), if_pos (show 1 < 3 by omega), if_neg (show ¬ nI 109 = 97 by decide), if_neg (show ¬ nI 109 = 98 by decide), if_neg (show ¬ nI 109 = 99 by decide), if_neg (show ¬ nI 109 = 100 by decide), if_neg (show ¬ nI 109 = 101 by decide), if_neg (show ¬ nI 109 = 102 by decide), if_neg (show ¬ nI 109 = 103 by decide), if_neg (show ¬ nI 109 = 104 by decide), if_neg (show ¬ nI 109 = 105 by decide), if_neg (show ¬ nI 109 = 106 by decide), if_neg (show ¬ nI 109 = 107 by decide), if_neg (show ¬ nI 109 = 108 by decide), if_pos (show nI 109 = 109 from rfl)]
  refine ⟨(zput M 15 11 (nI (a 0))), ?_, fun i hi => by rw [zput_ne (by omega)], wv_8 hv hp hw⟩
  rw [e0, e54_12_25_174, e48_12_25_0, show (11 : Int32) = nI 11 from rfl, show (1 : Int32) = nI 1 from rfl, show (0 : Int32) = nI 0 from rfl]
  rw [e48_12_25_3, if_pos (show nI 0 < nI 1 by decide), s4_25, zbI_some, zrd_nI (by omega), if_pos (show 0 < 3 by omega), n0, show nI 11 + nI 0 = nI 11 from rfl, s5_15, zbV_some, zwr_nI (by omega) (by omega), show nI 0 + 1 = nI 1 from rfl, e48_12_25_3, if_neg (show ¬ nI 1 < nI 1 by decide), zbI_some, if_pos zfit_1]
  rfl
theorem s54_12_9 (hv : zTv M 12 t) (hp : zTp t) (hw : wall 9 a (wNm 9) 0 = true) (h25 : ∀ j, j < 1 → M 25 j = nI (a j)) : match wTk t 9 a with
    | none => zden (L + 1) 54 0 [some (.ref 12), some (.int (nI 116)), some (.ref 25), none, none] [] M = some (some (.int 0), M)
    | some u => ∃ P, zden (L + 1) 54 0 [some (.ref 12), some (.int (nI 116)), some (.ref 25), none, none] [] M = some (some (.int 1), P) ∧ (∀ i, (i < 12 ∨ 22 < i) → P i = M i) ∧ zTv P 12 u := by
  obtain ⟨⟨g0, g1, g2, g3⟩, -⟩ := id hp
  have hw' : (wbd 9 0 (a 0) && true) = true := hw
  simp only [Bool.and_eq_true] at hw'
  have b0 : 0 ≤ a 0 ∧ a 0 ≤ 60 := wbd_iff.mp hw'.1
  have n0 : M 25 0 = nI (a 0) := h25 0 (by omega)
  have v0 : M 12 2 = nI (t 0) := hv.1 0 (by unfold wlv; omega)
  have v1 : M 12 6 = nI (t 1) := hv.1 1 (by unfold wlv; omega)
  have v2 : M 12 9 = nI (t 2) := hv.1 2 (by unfold wlv; omega)
  have v3 : M 12 13 = nI (t 3) := hv.1 3 (by unfold wlv; omega)
  have e0 : zden (L + 1) 54 0 [some (.ref 12), some (.int (nI 116)), some (.ref 25), none, none] [] M = zden (L + 1) 54 183 [some (.ref 12), some (.int (nI 116)), some (.ref 25), some (.int (nI (a 0))), some (.int (M 25 1))] [] M := by
    rw [e54_12_25_0, show (0 : Int32) = nI 0 from rfl, s4_25, zbI_some, zrd_nI (by omega), if_pos (show 0 < 3 by omega), n0, show (1 : Int32) = nI 1 from rfl, s4_25, zbI_some, zrd_nI (by omega), if_pos (show 1 < 3 by omega), if_neg (show ¬ nI 116 = 97 by decide), if_neg (show ¬ nI 116 = 98 by decide), if_neg (show ¬ nI 116 = 99 by decide), if_neg (show ¬ nI 116 = 100 by decide), if_neg (show ¬ nI 116 = 101 by decide), if_neg (show ¬ nI 116 = 102 by decide), if_neg (show ¬ nI 116 = 103 by decide), if_neg (show ¬ nI 116 = 104 by decide), if_neg (show ¬ nI 116 = 105 by decide), if_neg (show ¬ nI 116 = 106 by decide), if_neg (show ¬ nI 116 = 107 by decide), if_neg (show ¬ nI 116 = 108 by decide), if_neg (show ¬ nI 116 = 109 by decide), if_neg (show ¬ nI 116 = 110 by decide), if_neg (show ¬ nI 116 = 111 by decide), if_neg (show ¬ nI 116 = 112 by decide), if_neg (show ¬ nI 116 = 113 by decide), if_neg (show ¬ nI 116 = 114 by decide), if_neg (show ¬ nI 116 = 115 by decide), if_pos (show nI 116 = 116 from rfl)]
  by_cases hg : t 2 < 7
  · rw [show wTk t 9 a = some (wup1 (wup1 t 2 (t 2 + 1)) (72 + t 2) (a 0)) by unfold wTk; exact if_pos hg]
    refine ⟨(zput (zput M 19 (t 2) (nI (a 0))) 12 9 (nI (t 2 + 1))), ?_, fun i hi => by rw [zput_ne (by omega), zput_ne (by omega)], wv_9 hv hp hw hg⟩
    rw [e0, e54_12_25_183, e51_12_0, v2, if_pos (show nI (t 2) < 7 from nI_lt (b := 7) hg (by omega)), s5_19, zbV_some, zwr_nI (by omega) (by omega), zput_ne (show 12 ≠ 19 by omega), v2, nI_1, zbI_some, if_pos zfit_1]
  · rw [show wTk t 9 a = none by unfold wTk; exact if_neg hg]
    show zden (L + 1) 54 0 [some (.ref 12), some (.int (nI 116)), some (.ref 25), none, none] [] M = some (some (.int 0), M)
    rw [e0, e54_12_25_183, e51_12_0, v2, if_neg (show ¬ nI (t 2) < 7 from nI_nlt (b := 7) (by omega) (by omega)), zbI_some, if_pos zfit_0]
theorem s54_12_10 (hv : zTv M 12 t) (hp : zTp t) (hw : wall 10 a (wNm 10) 0 = true) (h25 : ∀ j, j < 3 → M 25 j = nI (a j)) : match wTk t 10 a with
    | none => zden (L + 1) 54 0 [some (.ref 12), some (.int (nI 101)), some (.ref 25), none, none] [] M = some (some (.int 0), M)
    | some u => ∃ P, zden (L + 1) 54 0 [some (.ref 12), some (.int (nI 101)), some (.ref 25), none, none] [] M = some (some (.int 1), P) ∧ (∀ i, (i < 12 ∨ 22 < i) → P i = M i) ∧ zTv P 12 u := by
  obtain ⟨⟨g0, g1, g2, g3⟩, -⟩ := id hp
  have hw' : (wbd 10 0 (a 0) && (wbd 10 1 (a 1) && (wbd 10 2 (a 2) && true))) = true := hw
  simp only [Bool.and_eq_true] at hw'
  have b0 : 0 ≤ a 0 ∧ a 0 ≤ 6 := wbd_iff.mp hw'.1
  have b1 : 0 ≤ a 1 ∧ a 1 ≤ 6 := wbd_iff.mp hw'.2.1
  have b2 : 1 ≤ a 2 ∧ a 2 ≤ 60 := wbd_iff.mp hw'.2.2.1
  have n0 : M 25 0 = nI (a 0) := h25 0 (by omega)
  have n1 : M 25 1 = nI (a 1) := h25 1 (by omega)
  have n2 : M 25 2 = nI (a 2) := h25 2 (by omega)
  have v0 : M 12 2 = nI (t 0) := hv.1 0 (by unfold wlv; omega)
  have v1 : M 12 6 = nI (t 1) := hv.1 1 (by unfold wlv; omega)
  have v2 : M 12 9 = nI (t 2) := hv.1 2 (by unfold wlv; omega)
  have v3 : M 12 13 = nI (t 3) := hv.1 3 (by unfold wlv; omega)
  have e0 : zden (L + 1) 54 0 [some (.ref 12), some (.int (nI 101)), some (.ref 25), none, none] [] M = zden (L + 1) 54 189 [some (.ref 12), some (.int (nI 101)), some (.ref 25), some (.int (nI (a 0))), some (.int (M 25 1))] [] M := by
    rw [e54_12_25_0, show (0 : Int32) = nI 0 from rfl, s4_25, zbI_some, zrd_nI (by omega), if_pos (show 0 < 3 by omega), n0, show (1 : Int32) = nI 1 from rfl, s4_25, zbI_some, zrd_nI (by omega), if_pos (show 1 < 3 by omega), if_neg (show ¬ nI 101 = 97 by decide), if_neg (show ¬ nI 101 = 98 by decide), if_neg (show ¬ nI 101 = 99 by decide), if_neg (show ¬ nI 101 = 100 by decide), if_pos (show nI 101 = 101 from rfl)]
  by_cases hg : t 3 < 10 ∧ a 0 < t 2 ∧ a 1 < t 2 ∧ a 0 ≠ a 1
  · rw [show wTk t 10 a = some (wup1 (wup1 (wup1 (wup1 t 3 (t 3 + 1)) (86 + t 3) (a 0)) (96 + t 3) (a 1)) (106 + t 3) (a 2)) by unfold wTk; exact if_pos hg]
    refine ⟨(zput (zput (zput (zput M 20 (t 3) (nI (a 0))) 21 (t 3) (nI (a 1))) 22 (t 3) (nI (a 2))) 12 13 (nI (t 3 + 1))), ?_, fun i hi => by rw [zput_ne (by omega), zput_ne (by omega), zput_ne (by omega), zput_ne (by omega)], wv_10 hv hp hw hg⟩
    rw [e0, e54_12_25_189, n1, show (2 : Int32) = nI 2 from rfl, s4_25, zbI_some, zrd_nI (by omega), if_pos (show 2 < 3 by omega), n2, e52_12_0, v3, if_pos (show nI (t 3) < 10 from nI_lt (b := 10) hg.1 (by omega)), v2, if_pos (nI_lt hg.2.1 (by omega)), if_pos (nI_lt hg.2.2.1 (by omega)), if_neg (fun q => hg.2.2.2 ((nI_eq (by omega) (by omega)).mp q)), s5_20, zbV_some, zwr_nI (by omega) (by omega), zput_ne (show 12 ≠ 20 by omega), v3, s5_21, zbV_some, zwr_nI (by omega) (by omega), zput_ne (show 12 ≠ 21 by omega), zput_ne (show 12 ≠ 20 by omega), v3, s5_22, zbV_some, zwr_nI (by omega) (by omega), zput_ne (show 12 ≠ 22 by omega), zput_ne (show 12 ≠ 21 by omega), zput_ne (show 12 ≠ 20 by omega), v3, nI_1, zbI_some, if_pos zfit_1]
  · rw [show wTk t 10 a = none by unfold wTk; exact if_neg hg]
    show zden (L + 1) 54 0 [some (.ref 12), some (.int (nI 101)), some (.ref 25), none, none] [] M = some (some (.int 0), M)
    by_cases h1 : t 3 < 10
    · by_cases h2 : a 0 < t 2
      · by_cases h3 : a 1 < t 2
        · have h4 : a 0 = a 1 := by omega
          rw [e0, e54_12_25_189, n1, show (2 : Int32) = nI 2 from rfl, s4_25, zbI_some, zrd_nI (by omega), if_pos (show 2 < 3 by omega), n2, e52_12_0, v3, if_pos (show nI (t 3) < 10 from nI_lt (b := 10) h1 (by omega)), v2, if_pos (nI_lt h2 (by omega)), if_pos (nI_lt h3 (by omega)), if_pos (by rw [h4]), e52_12_30, zbI_some, if_pos zfit_0]
        · rw [e0, e54_12_25_189, n1, show (2 : Int32) = nI 2 from rfl, s4_25, zbI_some, zrd_nI (by omega), if_pos (show 2 < 3 by omega), n2, e52_12_0, v3, if_pos (show nI (t 3) < 10 from nI_lt (b := 10) h1 (by omega)), v2, if_pos (nI_lt h2 (by omega)), if_neg (nI_nlt (by omega) (by omega)), e52_12_30, zbI_some, if_pos zfit_0]
      · rw [e0, e54_12_25_189, n1, show (2 : Int32) = nI 2 from rfl, s4_25, zbI_some, zrd_nI (by omega), if_pos (show 2 < 3 by omega), n2, e52_12_0, v3, if_pos (show nI (t 3) < 10 from nI_lt (b := 10) h1 (by omega)), v2, if_neg (nI_nlt (by omega) (by omega)), e52_12_30, zbI_some, if_pos zfit_0]
    · rw [e0, e54_12_25_189, n1, show (2 : Int32) = nI 2 from rfl, s4_25, zbI_some, zrd_nI (by omega), if_pos (show 2 < 3 by omega), n2, e52_12_0, v3, if_neg (show ¬ nI (t 3) < 10 from nI_nlt (b := 10) (by omega) (by omega)), e52_12_30, zbI_some, if_pos zfit_0]
theorem s54_12_11 (hv : zTv M 12 t) (hp : zTp t) (hw : wall 11 a (wNm 11) 0 = true) (h25 : ∀ j, j < 1 → M 25 j = nI (a j)) : match wTk t 11 a with
    | none => zden (L + 1) 54 0 [some (.ref 12), some (.int (nI 105)), some (.ref 25), none, none] [] M = some (some (.int 0), M)
    | some u => ∃ P, zden (L + 1) 54 0 [some (.ref 12), some (.int (nI 105)), some (.ref 25), none, none] [] M = some (some (.int 1), P) ∧ (∀ i, (i < 12 ∨ 22 < i) → P i = M i) ∧ zTv P 12 u := by
  obtain ⟨⟨g0, g1, g2, g3⟩, -⟩ := id hp
  have hw' : (wbd 11 0 (a 0) && true) = true := hw
  simp only [Bool.and_eq_true] at hw'
  have b0 : 0 ≤ a 0 ∧ a 0 ≤ 6 := wbd_iff.mp hw'.1
  have n0 : M 25 0 = nI (a 0) := h25 0 (by omega)
  have v0 : M 12 2 = nI (t 0) := hv.1 0 (by unfold wlv; omega)
  have v1 : M 12 6 = nI (t 1) := hv.1 1 (by unfold wlv; omega)
  have v2 : M 12 9 = nI (t 2) := hv.1 2 (by unfold wlv; omega)
  have v3 : M 12 13 = nI (t 3) := hv.1 3 (by unfold wlv; omega)
  have e0 : zden (L + 1) 54 0 [some (.ref 12), some (.int (nI 105)), some (.ref 25), none, none] [] M = zden (L + 1) 54 202 [some (.ref 12), some (.int (nI 105)), some (.ref 25), some (.int (nI (a 0))), some (.int (M 25 1))] [] M := by
    rw [e54_12_25_0, show (0 : Int32) = nI 0 from rfl, s4_25, zbI_some, zrd_nI (by omega), if_pos (show 0 < 3 by omega), n0, show (1 : Int32) = nI 1 from rfl, s4_25, zbI_some, zrd_nI (by omega), if_pos (show 1 < 3 by omega), if_neg (show ¬ nI 105 = 97 by decide), if_neg (show ¬ nI 105 = 98 by decide), if_neg (show ¬ nI 105 = 99 by decide), if_neg (show ¬ nI 105 = 100 by decide), if_neg (show ¬ nI 105 = 101 by decide), if_neg (show ¬ nI 105 = 102 by decide), if_neg (show ¬ nI 105 = 103 by decide), if_neg (show ¬ nI 105 = 104 by decide), if_pos (show nI 105 = 105 from rfl)]
  by_cases hg : a 0 < t 2
  · rw [show wTk t 11 a = some (wup1 t (79 + a 0) 1) by unfold wTk; exact if_pos hg]
    refine ⟨(zput M 12 14 (M 12 14 ||| (1 <<< (nI (a 0) &&& 31)))), ?_, fun i hi => by rw [zput_ne (by omega)], wv_11 hv hp hg⟩
    rw [e0, e54_12_25_202, e53_12_0, v2, if_pos (nI_lt hg (by omega)), zbI_some, if_pos zfit_1]
  · rw [show wTk t 11 a = none by unfold wTk; exact if_neg hg]
    show zden (L + 1) 54 0 [some (.ref 12), some (.int (nI 105)), some (.ref 25), none, none] [] M = some (some (.int 0), M)
    rw [e0, e54_12_25_202, e53_12_0, v2, if_neg (nI_nlt (by omega) (by omega)), zbI_some, if_pos zfit_0]
theorem s54_12 {kd : Nat} (hkd : kd < 12) (hv : zTv M 12 t) (hp : zTp t) (hw : wall kd a (wNm kd) 0 = true) (h25 : ∀ j, j < wNm kd → M 25 j = nI (a j)) : match wTk t kd a with
    | none => zden (L + 1) 54 0 [some (.ref 12), some (.int (nI (wLt kd))), some (.ref 25), none, none] [] M = some (some (.int 0), M)
    | some u => ∃ P, zden (L + 1) 54 0 [some (.ref 12), some (.int (nI (wLt kd))), some (.ref 25), none, none] [] M = some (some (.int 1), P) ∧ (∀ i, (i < 12 ∨ 22 < i) → P i = M i) ∧ zTv P 12 u := by
  have h12 : kd = 0 ∨ kd = 1 ∨ kd = 2 ∨ kd = 3 ∨ kd = 4 ∨ kd = 5 ∨ kd = 6 ∨ kd = 7 ∨ kd = 8 ∨ kd = 9 ∨ kd = 10 ∨ kd = 11 := by omega
  rcases h12 with rfl | rfl | rfl | rfl | rfl | rfl | rfl | rfl | rfl | rfl | rfl | rfl
  · exact s54_12_0 hv hp hw h25
  · exact s54_12_1 hv hp hw h25
  · exact s54_12_2 hv hp hw h25
  · exact s54_12_3 hv hp hw h25
  · exact s54_12_4 hv hp hw h25
  · exact s54_12_5 hv hp hw h25
  · exact s54_12_6 hv hp hw h25
  · exact s54_12_7 hv hp hw h25
  · exact s54_12_8 hv hp hw h25
  · exact s54_12_9 hv hp hw h25
  · exact s54_12_10 hv hp hw h25
  · exact s54_12_11 hv hp hw h25
end KP
