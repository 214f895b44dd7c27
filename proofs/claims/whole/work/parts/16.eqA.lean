theorem zf_0 : zcode 0 = zc_0 ∧ zsrt zc_0 0 = true := ⟨rfl, by decide +kernel⟩
theorem zr_0 : zret 0 = some .int := rfl
theorem zf_1 : zcode 1 = zc_1 ∧ zsrt zc_1 0 = true := ⟨rfl, by decide +kernel⟩
theorem zr_1 : zret 1 = some .int := rfl
theorem zf_2 : zcode 2 = zc_2 ∧ zsrt zc_2 0 = true := ⟨rfl, by decide +kernel⟩
theorem zr_2 : zret 2 = some .int := rfl
theorem zf_13 : zcode 13 = zc_13 ∧ zsrt zc_13 0 = true := ⟨rfl, by decide +kernel⟩
theorem zr_13 : zret 13 = some .int := rfl
theorem zf_38 : zcode 38 = zc_38 ∧ zsrt zc_38 0 = true := ⟨rfl, by decide +kernel⟩
theorem zr_38 : zret 38 = some .int := rfl
theorem zf_46 : zcode 46 = zc_46 ∧ zsrt zc_46 0 = true := ⟨rfl, by decide +kernel⟩
theorem zr_46 : zret 46 = some .boolean := rfl
theorem zf_59 : zcode 59 = zc_59 ∧ zsrt zc_59 0 = true := ⟨rfl, by decide +kernel⟩
theorem zr_59 : zret 59 = some .int := rfl
theorem zf_140 : zcode 140 = zc_140 ∧ zsrt zc_140 0 = true := ⟨rfl, by decide +kernel⟩
theorem zr_140 : zret 140 = some .int := rfl
theorem zsw_140_1_k0 : ztsw 1 (123) (0) (8) #[51, 59, 67, 75, 83, 94, 99, 107, 115] 0 = 52 := by decide +kernel
theorem zsw_140_1_k1 : ztsw 1 (123) (0) (8) #[51, 59, 67, 75, 83, 94, 99, 107, 115] 1 = 60 := by decide +kernel
theorem zsw_140_1_k2 : ztsw 1 (123) (0) (8) #[51, 59, 67, 75, 83, 94, 99, 107, 115] 2 = 68 := by decide +kernel
theorem zsw_140_1_k3 : ztsw 1 (123) (0) (8) #[51, 59, 67, 75, 83, 94, 99, 107, 115] 3 = 76 := by decide +kernel
theorem zsw_140_1_k4 : ztsw 1 (123) (0) (8) #[51, 59, 67, 75, 83, 94, 99, 107, 115] 4 = 84 := by decide +kernel
theorem zsw_140_1_k5 : ztsw 1 (123) (0) (8) #[51, 59, 67, 75, 83, 94, 99, 107, 115] 5 = 95 := by decide +kernel
theorem zsw_140_1_k6 : ztsw 1 (123) (0) (8) #[51, 59, 67, 75, 83, 94, 99, 107, 115] 6 = 100 := by decide +kernel
theorem zsw_140_1_k7 : ztsw 1 (123) (0) (8) #[51, 59, 67, 75, 83, 94, 99, 107, 115] 7 = 108 := by decide +kernel
theorem zsw_140_1_k8 : ztsw 1 (123) (0) (8) #[51, 59, 67, 75, 83, 94, 99, 107, 115] 8 = 116 := by decide +kernel
theorem zsw_140_1 {L : Nat} {lc : zLo} {st : List Value} {M : zM} {x : Int32} : zden L 140 1 lc (.int x :: st) M = if x = 0 then zden L 140 52 lc st M else (if x = 1 then zden L 140 60 lc st M else (if x = 2 then zden L 140 68 lc st M else (if x = 3 then zden L 140 76 lc st M else (if x = 4 then zden L 140 84 lc st M else (if x = 5 then zden L 140 95 lc st M else (if x = 6 then zden L 140 100 lc st M else (if x = 7 then zden L 140 108 lc st M else (if x = 8 then zden L 140 116 lc st M else (zden L 140 124 lc st M))))))))) := by
  rw [zden_jump (pc' := ztsw 1 (123) (0) (8) #[51, 59, 67, 75, 83, 94, 99, 107, 115] x) (st' := st) (e := (.tableswitch (123) (0) (8) #[51, 59, 67, 75, 83, 94, 99, 107, 115], 52, .null, [1])) rfl rfl rfl]
  by_cases h0 : x = 0
  · rw [if_pos h0, h0, zsw_140_1_k0]
  rw [if_neg h0]
  by_cases h1 : x = 1
  · rw [if_pos h1, h1, zsw_140_1_k1]
  rw [if_neg h1]
  by_cases h2 : x = 2
  · rw [if_pos h2, h2, zsw_140_1_k2]
  rw [if_neg h2]
  by_cases h3 : x = 3
  · rw [if_pos h3, h3, zsw_140_1_k3]
  rw [if_neg h3]
  by_cases h4 : x = 4
  · rw [if_pos h4, h4, zsw_140_1_k4]
  rw [if_neg h4]
  by_cases h5 : x = 5
  · rw [if_pos h5, h5, zsw_140_1_k5]
  rw [if_neg h5]
  by_cases h6 : x = 6
  · rw [if_pos h6, h6, zsw_140_1_k6]
  rw [if_neg h6]
  by_cases h7 : x = 7
  · rw [if_pos h7, h7, zsw_140_1_k7]
  rw [if_neg h7]
  by_cases h8 : x = 8
  · rw [if_pos h8, h8, zsw_140_1_k8]
  rw [if_neg h8]
  have hd : x.toInt < (0) ∨ (8) < x.toInt := by
    have g0 := lv_neT h0 (a := 0) (by decide +kernel)
    have g1 := lv_neT h1 (a := 1) (by decide +kernel)
    have g2 := lv_neT h2 (a := 2) (by decide +kernel)
    have g3 := lv_neT h3 (a := 3) (by decide +kernel)
    have g4 := lv_neT h4 (a := 4) (by decide +kernel)
    have g5 := lv_neT h5 (a := 5) (by decide +kernel)
    have g6 := lv_neT h6 (a := 6) (by decide +kernel)
    have g7 := lv_neT h7 (a := 7) (by decide +kernel)
    have g8 := lv_neT h8 (a := 8) (by decide +kernel)
    omega
  have e : ztsw 1 (123) (0) (8) #[51, 59, 67, 75, 83, 94, 99, 107, 115] x = 124 := by unfold ztsw; rw [if_pos hd]; rfl
  rw [e]
theorem e46_0 (L : Nat) (v0 : Int32) (v1 : Int32) (v2 : Int32) (M : zM) : zden L 46 0 [some (.int v0), some (.int v1), some (.int v2)] [] M =
  if v0 < v1 then (zden L 46 14 [some (.int v0), some (.int v1), some (.int v2)] [] M) else (if v2 < v0 then (zden L 46 14 [some (.int v0), some (.int v1), some (.int v2)] [] M) else (zden L 46 15 [some (.int v0), some (.int v1), some (.int v2)] [.int 1] M)) :=
  (zd_w zf_46 0 2 rfl).trans
  (zd_lt zf_46 rfl (rfl) ((zd_w zf_46 3 2 rfl).trans
  (zd_gt zf_46 rfl (rfl) ((zd_w zf_46 6 1 rfl).trans
  (zd_goto zf_46 rfl (rfl))))))
theorem e46_14 (L : Nat) (o0 : Option Value) (o1 : Option Value) (o2 : Option Value) (M : zM) : zden L 46 14 [o0, o1, o2] [] M =
  zden L 46 15 [o0, o1, o2] [.int 0] M :=
  (zd_w zf_46 8 1 rfl)
theorem e46_15 (L : Nat) (o0 : Option Value) (o1 : Option Value) (o2 : Option Value) (s0 : Int32) (M : zM) : zden L 46 15 [o0, o1, o2] [.int s0] M =
  if zfit (some .boolean) s0 = true then some (some (.int s0), M) else none :=
  zd_rf zf_46 rfl zr_46
theorem e59_0 (L : Nat) (v0 : Int32) (v1 : Int32) (M : zM) : zden L 59 0 [some (.int v0), some (.int v1)] [] M =
  if 0 < v1 then (if v1 = 0 then none else (zden L 59 15 [some (.int v0), some (.int v1)] [.int (((v0 + v1) - 1) / v1)] M)) else (zden L 59 15 [some (.int v0), some (.int v1)] [.int 0] M) :=
  (zd_w zf_59 0 1 rfl).trans
  (zd_gt0 zf_59 rfl ((zd_w zf_59 4 6 rfl).trans
  (zd_div zf_59 rfl (rfl))) ((zd_w zf_59 2 1 rfl).trans
  (zd_goto zf_59 rfl (rfl))))
theorem e59_15 (L : Nat) (o0 : Option Value) (o1 : Option Value) (s0 : Int32) (M : zM) : zden L 59 15 [o0, o1] [.int s0] M =
  some (some (.int s0), M) :=
  zd_ri zf_59 rfl zr_59 rfl
theorem e13_0 (L : Nat) (v0 : Int32) (v1 : Int32) (M : zM) : zden L 13 0 [some (.int v0), some (.int v1)] [] M =
  if v0 < v1 then (zden L 13 10 [some (.int v0), some (.int v1)] [.int v1] M) else (zden L 13 10 [some (.int v0), some (.int v1)] [.int v0] M) :=
  (zd_w zf_13 0 2 rfl).trans
  (zd_lt zf_13 rfl ((zd_w zf_13 5 1 rfl)) ((zd_w zf_13 3 1 rfl).trans
  (zd_goto zf_13 rfl (rfl))))
theorem e13_10 (L : Nat) (o0 : Option Value) (o1 : Option Value) (s0 : Int32) (M : zM) : zden L 13 10 [o0, o1] [.int s0] M =
  some (some (.int s0), M) :=
  zd_ri zf_13 rfl zr_13 rfl
theorem e38_0 (L : Nat) (v0 : Int32) (v1 : Int32) (M : zM) : zden L 38 0 [some (.int v0), some (.int v1)] [] M =
  if v1 < v0 then (zden L 38 10 [some (.int v0), some (.int v1)] [.int v1] M) else (zden L 38 10 [some (.int v0), some (.int v1)] [.int v0] M) :=
  (zd_w zf_38 0 2 rfl).trans
  (zd_gt zf_38 rfl ((zd_w zf_38 5 1 rfl)) ((zd_w zf_38 3 1 rfl).trans
  (zd_goto zf_38 rfl (rfl))))
theorem e38_10 (L : Nat) (o0 : Option Value) (o1 : Option Value) (s0 : Int32) (M : zM) : zden L 38 10 [o0, o1] [.int s0] M =
  some (some (.int s0), M) :=
  zd_ri zf_38 rfl zr_38 rfl
theorem e1_0 (L : Nat) (v1 : Int32) (M : zM) : zden L 1 0 [some (.ref 36), some (.int v1), none, none, none] [] M =
  if 0 < v1 then (zbI (zden L 0 0 [some (.ref 1), some (.int 9)] [] M) (fun r1 M1 => if v1 = 0 then none else (zden L 1 28 [some (.ref 36), some (.int v1), some (.int ((10 * r1) / v1)), some (.int 1000), some (.int 0)] [] M1))) else (some (some (.int 0), M)) :=
  (zd_w zf_1 0 1 rfl).trans
  (zd_gt0 zf_1 rfl ((zd_w zf_1 4 4 rfl).trans
  (zd_ci zf_1 rfl rfl rfl rfl (fun r1 M1 => (zd_w zf_1 9 2 rfl).trans
  (zd_div zf_1 rfl ((zd_w zf_1 12 5 rfl)))))) ((zd_w zf_1 2 1 rfl).trans
  (zd_ri zf_1 rfl zr_1 rfl)))
theorem e1_28 (L : Nat) (o0 : Option Value) (v1 : Int32) (v2 : Int32) (v3 : Int32) (v4 : Int32) (M : zM) : zden L 1 28 [o0, some (.int v1), some (.int v2), some (.int v3), some (.int v4)] [] M =
  if v4 < v1 then (zden L 1 28 [o0, some (.int v1), some (.int v2), some (.int ((v3 * (1000 - v2)) / 1000)), some (.int (v4 + 1))] [] M) else (some (some (.int (1000 - v3)), M)) :=
  (zd_w zf_1 17 2 rfl).trans
  (zd_ge zf_1 rfl ((zd_w zf_1 30 3 rfl).trans
  (zd_ri zf_1 rfl zr_1 rfl)) ((zd_w zf_1 20 9 rfl).trans
  (zd_goto zf_1 rfl (rfl))))
theorem e2_0 (L : Nat) (v1 : Int32) (v2 : Int32) (M : zM) : zden L 2 0 [some (.ref 36), some (.int v1), some (.int v2), none] [] M =
  if v2 = 0 then (zden L 2 8 [some (.ref 36), some (.int v1), some (.int v2), none] [] M) else (if 0 < v1 then (zbI (zden L 1 0 [some (.ref 36), some (.int (v1 - 1)), none, none, none] [] M) (fun r1 M1 => zbI (zden L 0 0 [some (.ref 1), some (.int 10)] [] M1) (fun r2 M2 => some (some (.int (1000 - (((1000 - (10 * r2)) * (1000 - r1)) / 1000))), M2)))) else (zden L 2 8 [some (.ref 36), some (.int v1), some (.int v2), none] [] M)) :=
  (zd_w zf_2 0 1 rfl).trans
  (zd_eq0 zf_2 rfl (rfl) ((zd_w zf_2 2 1 rfl).trans
  (zd_gt0 zf_2 rfl ((zd_w zf_2 8 5 rfl).trans
  (zd_ci zf_2 rfl rfl rfl rfl (fun r1 M1 => (zd_w zf_2 14 8 rfl).trans
  (zd_ci zf_2 rfl rfl rfl rfl (fun r2 M2 => (zd_w zf_2 23 7 rfl).trans
  (zd_ri zf_2 rfl zr_2 rfl)))))) (rfl))))
theorem e2_8 (L : Nat) (v1 : Int32) (o2 : Option Value) (o3 : Option Value) (M : zM) : zden L 2 8 [some (.ref 36), some (.int v1), o2, o3] [] M =
  zbI (zden L 1 0 [some (.ref 36), some (.int v1), none, none, none] [] M) (fun r1 M1 => some (some (.int r1), M1)) :=
  (zd_w zf_2 4 2 rfl).trans
  (zd_ci zf_2 rfl rfl rfl rfl (fun r1 M1 => zd_ri zf_2 rfl zr_2 rfl))
theorem e0_0 (L : Nat) (v1 : Int32) (M : zM) : zden L 0 0 [some (.ref 1), some (.int v1)] [] M =
  if v1 < 0 then (zden L 0 22 [some (.ref 1), some (.int v1)] [] M) else (if v1 < 12 then (if zinb v1 12 = true then (zden L 0 23 [some (.ref 1), some (.int v1)] [.int (M 4 v1.toNatClampNeg)] M) else none) else (zden L 0 22 [some (.ref 1), some (.int v1)] [] M)) :=
  (zd_w zf_0 0 1 rfl).trans
  (zd_lt0 zf_0 rfl (rfl) ((zd_w zf_0 2 4 rfl).trans
  (zd_ge zf_0 rfl (rfl) ((zd_w zf_0 7 3 rfl).trans
  (zd_ld zf_0 rfl rfl (zd_goto zf_0 rfl (rfl)))))))
theorem e0_22 (L : Nat) (o0 : Option Value) (o1 : Option Value) (M : zM) : zden L 0 22 [o0, o1] [] M =
  zden L 0 23 [o0, o1] [.int 0] M :=
  (zd_w zf_0 12 1 rfl)
theorem e0_23 (L : Nat) (o0 : Option Value) (o1 : Option Value) (s0 : Int32) (M : zM) : zden L 0 23 [o0, o1] [.int s0] M =
  some (some (.int s0), M) :=
  zd_ri zf_0 rfl zr_0 rfl
theorem e140_0 (L : Nat) (v1 : Int32) (M : zM) : zden L 140 0 [some (.ref 0), some (.int v1)] [] M =
  if v1 = 0 then zden L 140 52 [some (.ref 0), some (.int v1)] [] M else (if v1 = 1 then zden L 140 60 [some (.ref 0), some (.int v1)] [] M else (if v1 = 2 then zden L 140 68 [some (.ref 0), some (.int v1)] [] M else (if v1 = 3 then zden L 140 76 [some (.ref 0), some (.int v1)] [] M else (if v1 = 4 then zden L 140 84 [some (.ref 0), some (.int v1)] [] M else (if v1 = 5 then zden L 140 95 [some (.ref 0), some (.int v1)] [] M else (if v1 = 6 then zden L 140 100 [some (.ref 0), some (.int v1)] [] M else (if v1 = 7 then zden L 140 108 [some (.ref 0), some (.int v1)] [] M else (if v1 = 8 then zden L 140 116 [some (.ref 0), some (.int v1)] [] M else (zden L 140 124 [some (.ref 0), some (.int v1)] [] M))))))))) :=
  (zd_w zf_140 0 1 rfl).trans
  ((zsw_140_1 (lc := [some (.ref 0), some (.int v1)]) (st := [])))
theorem e140_124 (L : Nat) (o0 : Option Value) (o1 : Option Value) (M : zM) : zden L 140 124 [o0, o1] [] M =
  some (some (.int (-1)), M) :=
  (zd_w zf_140 38 1 rfl).trans
  (zd_ri zf_140 rfl zr_140 rfl)
theorem e140_116 (L : Nat) (o1 : Option Value) (M : zM) : zden L 140 116 [some (.ref 0), o1] [] M =
  some (some (.int (M 23 1)), M) :=
  (zd_w zf_140 34 3 rfl).trans
  (zd_ri zf_140 rfl zr_140 rfl)
theorem e140_108 (L : Nat) (o1 : Option Value) (M : zM) : zden L 140 108 [some (.ref 0), o1] [] M =
  some (some (.int (M 45 3)), M) :=
  (zd_w zf_140 30 3 rfl).trans
  (zd_ri zf_140 rfl zr_140 rfl)
theorem e140_100 (L : Nat) (o1 : Option Value) (M : zM) : zden L 140 100 [some (.ref 0), o1] [] M =
  some (some (.int (M 43 3)), M) :=
  (zd_w zf_140 26 3 rfl).trans
  (zd_ri zf_140 rfl zr_140 rfl)
theorem e140_95 (L : Nat) (o1 : Option Value) (M : zM) : zden L 140 95 [some (.ref 0), o1] [] M =
  some (some (.int (M 0 15)), M) :=
  (zd_w zf_140 23 2 rfl).trans
  (zd_ri zf_140 rfl zr_140 rfl)
theorem e140_84 (L : Nat) (o1 : Option Value) (M : zM) : zden L 140 84 [some (.ref 0), o1] [] M =
  zbI (zden L 26 0 [some (.int (M 1 14))] [] M) (fun r1 M1 => some (some (.int r1), M1)) :=
  (zd_w zf_140 18 3 rfl).trans
  (zd_ci zf_140 rfl rfl rfl rfl (fun r1 M1 => zd_ri zf_140 rfl zr_140 rfl))
theorem e140_76 (L : Nat) (o1 : Option Value) (M : zM) : zden L 140 76 [some (.ref 0), o1] [] M =
  some (some (.int (M 1 13)), M) :=
  (zd_w zf_140 14 3 rfl).trans
  (zd_ri zf_140 rfl zr_140 rfl)
theorem e140_68 (L : Nat) (o1 : Option Value) (M : zM) : zden L 140 68 [some (.ref 0), o1] [] M =
  some (some (.int (M 1 9)), M) :=
  (zd_w zf_140 10 3 rfl).trans
  (zd_ri zf_140 rfl zr_140 rfl)
theorem e140_60 (L : Nat) (o1 : Option Value) (M : zM) : zden L 140 60 [some (.ref 0), o1] [] M =
  some (some (.int (M 1 6)), M) :=
  (zd_w zf_140 6 3 rfl).trans
  (zd_ri zf_140 rfl zr_140 rfl)
theorem e140_52 (L : Nat) (o1 : Option Value) (M : zM) : zden L 140 52 [some (.ref 0), o1] [] M =
  some (some (.int (M 1 2)), M) :=
  (zd_w zf_140 2 3 rfl).trans
  (zd_ri zf_140 rfl zr_140 rfl)
